/** What the tests share: it compares answers, prints the wrong ones and ends with code 1 if there was one. */
final class Due {
    static final int BEYOND = -1000000001;
    static final int FULL = -1000000002;
    static final int KIND = -1000000003;
    static final int NONE = -1000000004;
    static final int STATE = -1000000005;
    static final int MISSING = -1000000006;
    static final int SIZE = -1000000007;
    static final int LEAST = Integer.MIN_VALUE;
    static final int MOST = Integer.MAX_VALUE;

    private int wrong;
    private int asked;

    void is(String call, long got, long want) {
        asked++;
        if (got != want) {
            wrong++;
            System.out.println(call + " answered " + got + ", due is " + want);
        }
    }

    void same(String call, String got, String want) {
        asked++;
        if (!got.equals(want)) {
            wrong++;
            System.out.println(call + " was\n    " + got + "\n  due is\n    " + want);
        }
    }

    void end() {
        System.out.println(asked + " answers, " + wrong + " wrong");
        if (wrong != 0) {
            System.exit(1);
        }
    }

    /** Feeds a text to the tape, a byte at a time. */
    static void feed(HangerRail x, String text) {
        for (int i = 0; i < text.length(); i++) {
            x.feed(text.charAt(i), 1);
        }
    }

    /** What rail() answers to a text. */
    static int rail(HangerRail x, String text) {
        feed(x, text);
        return x.rail();
    }

    /** A new object with a rail told in a text. */
    static HangerRail told(String text) {
        HangerRail x = new HangerRail();
        if (rail(x, text) < 0) {
            System.out.println("the test's own text is faulty: " + text);
            System.exit(1);
        }
        return x;
    }

    static int set(int... hangers) {
        int set = 0;
        for (int h : hangers) {
            set |= 1 << h;
        }
        return set;
    }
}
