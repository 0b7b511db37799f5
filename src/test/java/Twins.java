import java.util.function.Supplier;
import java.util.function.ToLongFunction;

/**
 * Looks at what stands after a call: of two objects made alike one gets the call and the other doesn't, and then all
 * that can be seen of them is compared.
 */
final class Twins {
    private final Due due;

    Twins(Due due) {
        this.due = due;
    }

    /** An act that answers a finding changes nothing but status(), by one in that finding's own place. */
    void refused(String call, Supplier<HangerRail> scene, ToLongFunction<HangerRail> act, int finding) {
        HangerRail x = scene.get();
        HangerRail twin = scene.get();
        due.is(call, act.applyAsLong(x), finding);
        for (int which = 0; which < 7; which++) {
            int more = Due.BEYOND - which == finding ? 1 : 0;
            due.is(call + ", then status(" + which + ")", x.status(which), twin.status(which) + more);
        }
        due.is(call + ", then status(-1)", x.status(-1), twin.status(-1) + 1);
        due.same(call + ", then all there is", everything(x), everything(twin));
    }

    /** An act that only asks changes nothing at all. */
    void asked(String call, Supplier<HangerRail> scene, ToLongFunction<HangerRail> act, long want) {
        HangerRail x = scene.get();
        HangerRail twin = scene.get();
        due.is(call, act.applyAsLong(x), want);
        sameAfter(call, x, twin);
    }

    void sameAfter(String call, HangerRail x, HangerRail twin) {
        due.same(call + ", then the findings", findings(x), findings(twin));
        due.same(call + ", then all there is", everything(x), everything(twin));
    }

    private static String findings(HangerRail x) {
        StringBuilder seen = new StringBuilder();
        for (int which = -1; which < 7; which++) {
            seen.append(x.status(which)).append(' ');
        }
        return seen.toString();
    }

    /** All that can be seen of an object but its findings; it is used up by looking at it. */
    private static String everything(HangerRail x) {
        StringBuilder seen = new StringBuilder();
        rail(x, seen);
        for (int s = 0; s < 4; s++) {
            sheet(x, s, seen);
        }
        seen.append(" tape ").append(x.count(1)).append(' ').append(x.rail()).append(' ').append(x.now(5));
        seen.append(" image ").append(x.undo());
        rail(x, seen);
        return seen.toString();
    }

    private static void rail(HangerRail x, StringBuilder seen) {
        seen.append(" hangers ").append(x.count(0)).append(" up ").append(x.count(2)).append(" back ").append(x.count(3));
        for (int h = 0; h < x.count(0); h++) {
            seen.append(" [");
            for (int what = 0; what < 7; what++) {
                seen.append(x.of(h, what)).append(' ');
            }
            seen.append(']');
        }
        seen.append(" now ");
        for (int what = 0; what < 7; what++) {
            seen.append(x.now(what)).append(' ');
        }
        seen.append(" at ");
        for (int place = 0; place < 24; place++) {
            seen.append(x.at(place)).append(' ');
        }
    }

    /** Its numbers up to the finding behind the last of them, and how many bits the first one takes. */
    private static void sheet(HangerRail x, int s, StringBuilder seen) {
        seen.append(" sheet ");
        long number = 0;
        for (int i = 0; i < 41 && number != Due.BEYOND && number != Due.MISSING; i++) {
            number = x.write(s, i, 0);
            seen.append(number).append(' ');
        }
        x.write(s, 0, 1L << 40 | 1 << 12 | 200);
        seen.append(x.write(s, 0, 0));
    }

    /** Nothing at all yet. */
    static HangerRail fresh() {
        return new HangerRail();
    }

    /** Six hangers, two of them OUT; a tape, three sheets and an image of other things. */
    static HangerRail some() {
        HangerRail x = new HangerRail();
        tell(x, "wire at 3 shirt 4 feel 5;bent at 4 back shirt 2;wood back shirt 9;bar at 2;strap at 23 feel 15;hanger;price 9");
        x.image();
        x.shift(3, -2);
        x.price(11);
        feed(x, "wire at 9;price 12");
        row(x, 0, 16, 7, -1, 3, 40, 5, 1);
        row(x, 1, 8, 12, 13, 14, 15, 16);
        row(x, 2, 16, 20, 21, 22);
        return x;
    }

    /** Twelve hangers of two kinds, all on the rail, without a free place between them; 120 bytes on the tape. */
    static HangerRail full() {
        HangerRail x = new HangerRail();
        tell(x, "wire at 0;wire at 1;wire at 2;wire at 3;wire at 4;wire at 5;wire at 6;wire at 7");
        x.image();
        tell(x, "bar at 8;bar at 9;bar at 10;bar at 11 back shirt 9");
        feed(x, "price" + " ".repeat(113) + "23");
        row(x, 0, 64, Long.MIN_VALUE, Long.MAX_VALUE, 3);
        row(x, 1, 8);
        x.sheet(2, 16, 40);
        return x;
    }

    /** Three hangers that are all OUT. */
    static HangerRail out() {
        HangerRail x = new HangerRail();
        tell(x, "wire shirt 9 feel 3;bent back;wood");
        row(x, 0, 8, 0, 1, 2, 3);
        return x;
    }

    static void tell(HangerRail x, String text) {
        feed(x, text);
        if (x.rail() < 0) {
            System.out.println("the test's own text is faulty: " + text);
            System.exit(1);
        }
    }

    static void feed(HangerRail x, String text) {
        for (int i = 0; i < text.length(); i += 4) {
            int n = Math.min(4, text.length() - i);
            int bytes = 0;
            for (int k = 0; k < n; k++) {
                bytes = bytes << 8 | text.charAt(i + k);
            }
            x.feed(bytes, n);
        }
    }

    static void row(HangerRail x, int s, int bits, long... numbers) {
        x.sheet(s, bits, numbers.length);
        for (int i = 0; i < numbers.length; i++) {
            x.write(s, i, numbers[i]);
        }
    }

    /** Numbers just outside and far outside, and such as a shift, a mask or a narrowing would let in. */
    static int[] outside(int least, int most) {
        int[] far = {least - 1, least - 2, least - 100, Due.LEAST, Due.LEAST + least, most + 1, most + 2, least + 16, least + 32,
            least + 64, least + 128, least + 256, most + 256, least + 65536, most + (1 << 24), Due.MOST};
        return java.util.Arrays.stream(far).filter(v -> v < least || v > most).toArray();
    }
}
