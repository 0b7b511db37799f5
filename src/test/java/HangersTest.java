/** Promises 1 to 8: a new object, and its hangers. */
public final class HangersTest {
    private static final Due due = new Due();

    public static void main(String[] args) {
        newObject();
        hanger();
        of();
        kindsInNumbers();
        set();
        turn();
        as();
        price();
        at();
        due.end();
    }

    private static void newObject() {
        HangerRail x = new HangerRail();
        due.is("1: count(0)", x.count(0), 0);
        due.is("1: count(1)", x.count(1), 0);
        due.is("1: count(2)", x.count(2), 0);
        due.is("1: count(3)", x.count(3), 0);
        due.is("1: status(-1)", x.status(-1), 0);
        due.is("1: now(0)", x.now(0), 0);
        due.is("1: now(5)", x.now(5), 4);
        due.is("1: now(6)", x.now(6), 24);
        due.is("1: tear", x.tear(), 0);
        due.is("1: undo", x.undo(), Due.NONE);
        due.is("1: wipe", x.wipe(), 0);
        for (int s = 0; s < 4; s++) {
            due.is("1: book", x.book(s), Due.MISSING);
        }
    }

    private static void hanger() {
        HangerRail x = new HangerRail();
        due.is("2: kind -1", x.hanger(-1), Due.BEYOND);
        due.is("2: kind 6", x.hanger(6), Due.BEYOND);
        due.is("2: kind least", x.hanger(Due.LEAST), Due.BEYOND);
        due.is("2: kind most", x.hanger(Due.MOST), Due.BEYOND);
        due.is("2: none came", x.count(0), 0);
        for (int h = 0; h < 12; h++) {
            due.is("2: hanger", x.hanger(h % 6), h);
            due.is("2: is OUT", x.of(h, 1), -1);
            due.is("2: faces 0", x.of(h, 2), 0);
            due.is("2: no shirt", x.of(h, 3), 0);
            due.is("2: feel 0", x.of(h, 4), 0);
        }
        due.is("2: a 13th", x.hanger(0), Due.FULL);
        due.is("2: BEYOND is asked first", x.hanger(9), Due.BEYOND);
        due.is("2: twelve", x.count(0), 12);
        due.is("2: no moves", x.now(0), 0);
    }

    private static void of() {
        HangerRail x = Due.told("wire; bent at 7 back shirt 6 feel 11");
        int[] wire = {1, -1, 0, 0, 0, 3, 1};
        int[] bent = {3, 7, 1, 6, 11, 2, 2};
        for (int what = 0; what < 7; what++) {
            due.is("3: of(0, " + what + ")", x.of(0, what), wire[what]);
            due.is("3: of(1, " + what + ")", x.of(1, what), bent[what]);
        }
        due.is("3: what -1", x.of(0, -1), Due.BEYOND);
        due.is("3: what 7", x.of(0, 7), Due.BEYOND);
        due.is("3: hanger 2", x.of(2, 0), Due.BEYOND);
        due.is("3: hanger -1", x.of(-1, 0), Due.BEYOND);
        due.is("3: hanger most", x.of(Due.MOST, 0), Due.BEYOND);
        due.is("3: hanger least", x.of(Due.LEAST, 0), Due.BEYOND);
    }

    private static void kindsInNumbers() {
        int[] holds = {5, 3, 8, 2, 7, 9};
        int[] need = {1, 1, 2, 2, 1, 2};
        HangerRail x = new HangerRail();
        x.hanger(0);
        for (int k = 0; k < 6; k++) {
            x.turn(0, k);
            due.is("3: kind " + k, x.of(0, 0), k);
            due.is("3: HOLDS of " + k, x.of(0, 5), holds[k]);
            due.is("3: NEED of " + k, x.of(0, 6), need[k]);
        }
    }

    private static void set() {
        HangerRail x = Due.told("wire; wood");
        due.is("4: slip 9", x.set(0, 3, 9), 0);
        due.is("4: slip 1", x.set(0, 3, 1), 9);
        due.is("4: slip 0", x.set(0, 3, 0), 1);
        due.is("4: feel 15", x.set(1, 4, 15), 0);
        due.is("4: feel 3", x.set(1, 4, 3), 15);
        due.is("4: slip 10", x.set(1, 3, 10), Due.BEYOND);
        due.is("4: slip -1", x.set(1, 3, -1), Due.BEYOND);
        due.is("4: feel 16", x.set(1, 4, 16), Due.BEYOND);
        due.is("4: feel -1", x.set(1, 4, -1), Due.BEYOND);
        due.is("4: feel least", x.set(1, 4, Due.LEAST), Due.BEYOND);
        for (int what : new int[] {-1, 0, 1, 2, 5, 6, 7}) {
            due.is("4: what " + what, x.set(1, what, 1), Due.BEYOND);
        }
        due.is("4: hanger 2", x.set(2, 3, 1), Due.BEYOND);
        due.is("4: hanger -1", x.set(-1, 3, 1), Due.BEYOND);
        due.is("4: slip is as it was", x.of(1, 3), 0);
        due.is("4: feel is as it was", x.of(1, 4), 3);
        due.is("4: no moves", x.now(0), 0);
    }

    private static void turn() {
        HangerRail x = Due.told("wire at 4 back shirt 7 feel 2");
        due.is("5: to bar", x.turn(0, 5), 1);
        due.is("5: to bar again", x.turn(0, 5), 5);
        due.is("5: kind", x.of(0, 0), 5);
        due.is("5: place stays", x.of(0, 1), 4);
        due.is("5: facing stays", x.of(0, 2), 1);
        due.is("5: shirt stays", x.of(0, 3), 7);
        due.is("5: feel stays", x.of(0, 4), 2);
        due.is("5: kind 6", x.turn(0, 6), Due.BEYOND);
        due.is("5: kind -1", x.turn(0, -1), Due.BEYOND);
        due.is("5: hanger 1", x.turn(1, 0), Due.BEYOND);
        due.is("5: kind is as it was", x.of(0, 0), 5);
        due.is("5: no moves", x.now(0), 0);
    }

    private static void as() {
        // A row for each kind: which kinds it is, or is under.
        boolean[][] under = {
            {true, false, false, false, false, false},
            {true, true, false, false, false, false},
            {true, false, true, false, false, false},
            {true, true, false, true, false, false},
            {true, true, false, false, true, false},
            {true, false, true, false, false, true},
        };
        HangerRail x = Due.told("hanger shirt 8");
        for (int k = 0; k < 6; k++) {
            x.turn(0, k);
            for (int a = 0; a < 6; a++) {
                due.is("6: " + k + " as " + a, x.as(0, a), under[k][a] ? 8 : Due.KIND);
            }
        }
        due.is("6: kind 6", x.as(0, 6), Due.BEYOND);
        due.is("6: kind -1", x.as(0, -1), Due.BEYOND);
        due.is("6: hanger 1", x.as(1, 0), Due.BEYOND);
        due.is("6: hanger -1", x.as(-1, 0), Due.BEYOND);
    }

    private static void price() {
        HangerRail x = new HangerRail();
        due.is("7: 99", x.price(99), 4);
        due.is("7: 100", x.price(100), Due.BEYOND);
        due.is("7: -1", x.price(-1), Due.BEYOND);
        due.is("7: 0", x.price(0), 99);
        due.is("7: now(5)", x.now(5), 0);
    }

    private static void at() {
        HangerRail x = Due.told("wire at 0; wood at 23");
        due.is("8: 0", x.at(0), 0);
        due.is("8: 23", x.at(23), 1);
        due.is("8: 11", x.at(11), Due.NONE);
        due.is("8: -1", x.at(-1), Due.BEYOND);
        due.is("8: 24", x.at(24), Due.BEYOND);
        due.is("8: most", x.at(Due.MOST), Due.BEYOND);
        x.take(0, 0);
        due.is("8: taken away", x.at(0), Due.NONE);
    }
}
