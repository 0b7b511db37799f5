import java.util.Random;

/** Runs of calls, chosen by fixed seeds, whose answers must be those of the model. */
public final class ModelTest {
    private static final int RUNS = 900;
    private static final int CALLS = 250;
    private static final Due due = new Due();

    private final Random random;
    private final HangerRail x = new HangerRail();
    private final Model m = new Model();
    private final String run;

    private ModelTest(int seed) {
        random = new Random(seed);
        run = "run " + seed + ": ";
    }

    public static void main(String[] args) {
        for (int seed = 1; seed <= RUNS; seed++) {
            ModelTest test = new ModelTest(seed);
            test.fill(seed % 13, seed % 7 == 0 ? 24 : 13);
            for (int i = 0; i < CALLS; i++) {
                test.call(test.random.nextInt(56));
            }
        }
        due.end();
    }

    private int below(int n) {
        return random.nextInt(n);
    }

    /** Mostly one of 0 to most, now and then one a little or far beyond. */
    private int about(int most) {
        int dice = below(40);
        if (dice == 0) {
            return most + 1;
        }
        if (dice == 1) {
            return -1;
        }
        if (dice == 2) {
            return random.nextInt();
        }
        return below(most + 1);
    }

    private int hanger() {
        return about(Math.max(0, m.s.all.size() - 1));
    }

    /** Hangers close to one another, so that there is much to untangle. */
    private void fill(int hangers, int width) {
        for (int h = 0; h < hangers; h++) {
            int kind = below(6);
            int place = below(width);
            int slip = below(10);
            due.is(run + "hanger", x.hanger(kind), m.hanger(kind));
            due.is(run + "hang", x.hang(h, place), m.hang(h, place));
            due.is(run + "set", x.set(h, 3, slip), m.set(h, 3, slip));
            if (below(3) == 0) {
                due.is(run + "face", x.face(h), m.face(h));
            }
        }
    }

    private void call(int which) {
        if (which < 14) {
            change(which);
        } else if (which < 32) {
            ask(which);
        } else if (which < 36) {
            text();
        } else if (which < 46) {
            sheets(which);
        } else if (which < 50) {
            images(which);
        } else {
            rehang();
        }
    }

    private void change(int which) {
        int h = hanger();
        int a = about(5);
        int b = about(16);
        int p = about(23);
        int by = about(8) - 4;
        int manner = about(2);
        int what = 3 + about(1);
        switch (which) {
            case 0 -> due.is(run + "hanger " + a, x.hanger(a), m.hanger(a));
            case 1 -> due.is(run + "of " + h + " " + b % 8, x.of(h, b % 8), m.of(h, b % 8));
            case 2 -> due.is(run + "set " + h + " " + what + " " + b, x.set(h, what, b), m.set(h, what, b));
            case 3 -> due.is(run + "turn " + h + " " + a, x.turn(h, a), m.turn(h, a));
            case 4 -> due.is(run + "as " + h + " " + a, x.as(h, a), m.as(h, a));
            case 5 -> due.is(run + "price " + p, x.price(p), m.price(p));
            case 6 -> due.is(run + "at " + p, x.at(p), m.at(p));
            case 7, 8, 9 -> due.is(run + "hang " + h + " " + p, x.hang(h, p), m.hang(h, p));
            case 10 -> due.is(run + "face " + h, x.face(h), m.face(h));
            case 11, 12 -> due.is(run + "shift " + h + " " + by, x.shift(h, by), m.shift(h, by));
            default -> due.is(run + "take " + h + " " + manner, x.take(h, manner), m.take(h, manner));
        }
    }

    private void ask(int which) {
        int h = hanger();
        int o = hanger();
        int manner = about(2);
        int what = about(6);
        int feel = about(15);
        switch (which) {
            case 14 -> due.is(run + "now " + what, x.now(what), m.now(what));
            case 15 -> due.is(run + "tangled " + h, x.tangled(h), m.tangled(h));
            case 16 -> due.is(run + "catches " + h + " " + o, x.catches(h, o), m.catches(h, o));
            case 17 -> due.is(run + "comes " + h + " " + manner, x.comes(h, manner), m.comes(h, manner));
            case 18 -> due.is(run + "falls " + h + " " + manner, x.falls(h, manner), m.falls(h, manner));
            case 19 -> due.is(run + "heaps", x.heaps(), m.heaps());
            case 20 -> due.is(run + "greatest", x.greatest(), m.greatest());
            case 21 -> due.is(run + "manner " + h, x.manner(h), m.manner(h));
            case 22 -> due.is(run + "first", x.first(), m.first());
            case 23 -> due.is(run + "spot " + h, x.spot(h), m.spot(h));
            case 24 -> due.is(run + "facing", x.facing(), m.facing());
            case 25 -> due.is(run + "clears " + manner, x.clears(manner), m.clears(manner));
            case 26, 27 -> due.is(run + "untangle", x.untangle(), m.untangle());
            case 28 -> due.is(run + "saves", x.saves(), m.saves());
            case 29 -> due.is(run + "feels " + feel, x.feels(feel), m.feels(feel));
            default -> due.is(run + "kind " + h, x.kind(h), m.kind(h));
        }
    }

    private void text() {
        String[] names = {"hanger", "wire", "wood", "bent", "strap", "bar", "price", "coat", "", "3", "~"};
        StringBuilder text = new StringBuilder();
        int items = 1 + below(3);
        for (int i = 0; i < items; i++) {
            text.append(i == 0 ? "" : below(15) == 0 ? " " : below(2) == 0 ? ";" : " ; ");
            int name = below(25) == 0 ? below(names.length) : below(7);
            text.append(names[name]);
            if (name == 6) {
                text.append(" ").append(about(99));
                continue;
            }
            text.append(below(2) == 0 ? " at " + about(23) : "");
            text.append(below(2) == 0 ? " back" : "");
            text.append(below(2) == 0 ? " shirt" + about(9) : "");
            text.append(below(2) == 0 ? " feel  " + about(15) : "");
        }
        for (int i = 0; i < text.length(); i += 3) {
            int n = Math.min(3, text.length() - i);
            int bytes = 0;
            for (int k = 0; k < n; k++) {
                bytes = bytes << 8 | text.charAt(i + k);
            }
            due.is(run + "feed", x.feed(bytes, n), m.feed(bytes, n));
        }
        int n = about(4);
        if (below(8) == 0) {
            int bytes = random.nextInt();
            due.is(run + "feed " + bytes + " " + n, x.feed(bytes, n), m.feed(bytes, n));
        }
        if (below(12) == 0) {
            due.is(run + "wipe", x.wipe(), m.wipe());
        } else if (below(8) != 0) {
            due.is(run + "rail " + text, x.rail(), m.rail());
        }
    }

    private void sheets(int which) {
        int s = about(3);
        int t = about(3);
        int n = about(14);
        int bits = new int[] {0, 8, 8, 16, 16, 64, 64, 32, 16, 8, 64}[below(11)];
        long v = below(3) == 0 ? random.nextLong() : about(23);
        int i = about(6);
        int j = about(6);
        switch (which) {
            case 36 -> due.is(run + "sheet " + s, x.sheet(s, bits, 3 * n), m.sheet(s, bits, 3 * n));
            case 37, 38, 39, 40 -> due.is(run + "write " + s + " " + i, x.write(s, i, v), m.write(s, i, v));
            case 41 -> due.is(run + "copy", x.copy(s, i, t, j, n), m.copy(s, i, t, j, n));
            case 42 -> due.is(run + "lays " + s, x.lays(s), m.lays(s));
            case 43, 44 -> due.is(run + "book " + s, x.book(s), m.book(s));
            default -> due.is(run + "read " + s, x.read(s), m.read(s));
        }
    }

    private void images(int which) {
        int what = about(3);
        int status = about(7) - 1;
        switch (which) {
            case 46 -> keep(below(8));
            case 47, 48 -> due.is(run + "count " + what, x.count(what), m.count(what));
            default -> due.is(run + "status " + status, x.status(status), m.status(status));
        }
    }

    private void keep(int dice) {
        if (dice < 4) {
            due.is(run + "image", x.image(), m.image());
        } else if (dice < 7) {
            due.is(run + "undo", x.undo(), m.undo());
        } else {
            due.is(run + "tear", x.tear(), m.tear());
        }
    }

    /** Hangs one that is out next to another one, so that the rail doesn't stay empty. */
    private void rehang() {
        for (int h = 0; h < m.s.all.size(); h++) {
            int place = below(14);
            if (m.s.get(h).at < 0) {
                due.is(run + "hang " + h + " " + place, x.hang(h, place), m.hang(h, place));
                return;
            }
        }
    }
}
