/** Promises 14 to 19: who catches whom, what comes, what falls, the heaps. */
public final class ComesTest {
    private static final Due due = new Due();

    public static void main(String[] args) {
        catchesByKind();
        catchesWrong();
        tangled();
        comes();
        falls();
        heaps();
        due.end();
    }

    /** By kind (the strap twice: without and with a shirt): for 1, 2, 3 places off, the same way and the other. */
    private static void catchesByKind() {
        String[] told = {"hanger", "wire", "wood", "bent", "strap", "bar", "strap"};
        int[][] same = {{1, 0, 0}, {1, 1, 0}, {0, 0, 0}, {1, 1, 0}, {0, 0, 0}, {0, 0, 0}, {1, 1, 0}};
        int[][] other = {{0, 0, 0}, {0, 0, 0}, {0, 0, 0}, {1, 0, 0}, {0, 0, 0}, {1, 0, 0}, {0, 0, 0}};
        for (int k = 0; k < 7; k++) {
            for (int d = 1; d <= 3; d++) {
                for (int side = -1; side <= 1; side += 2) {
                    String shirt = k == 6 ? " shirt 1" : "";
                    HangerRail x = Due.told(told[k] + " at 10" + shirt + "; wood at " + (10 + side * d));
                    String call = "15: " + told[k] + shirt + " " + side * d;
                    due.is(call + " same", x.catches(0, 1), same[k][d - 1]);
                    due.is("14: tangled " + told[k], x.tangled(0), 2 * same[k][d - 1]);
                    due.is("14: tangled with " + told[k], x.tangled(1), same[k][d - 1]);
                    due.is(call + " wood never does", x.catches(1, 0), 0);
                    x.face(1);
                    due.is(call + " other", x.catches(0, 1), other[k][d - 1]);
                    x.face(0);
                    due.is(call + " same, both back", x.catches(0, 1), same[k][d - 1]);
                }
            }
        }
    }

    private static void catchesWrong() {
        HangerRail x = Due.told("wire at 3; wire; wire at 4");
        due.is("15: the other one is OUT", x.catches(0, 1), 0);
        due.is("15: it is OUT", x.catches(1, 0), 0);
        HangerRail edge = Due.told("wire; wire at 0");
        due.is("15: OUT is not next to the left end", edge.catches(0, 1), 0);
        due.is("15: nor the left end to it", edge.catches(1, 0), 0);
        due.is("15: both ways", x.catches(2, 0), 1);
        due.is("15: one and the same", x.catches(0, 0), Due.BEYOND);
        due.is("15: one and the same, OUT", x.catches(1, 1), Due.BEYOND);
        due.is("15: other 3", x.catches(0, 3), Due.BEYOND);
        due.is("15: other -1", x.catches(0, -1), Due.BEYOND);
        due.is("15: hanger 3", x.catches(3, 0), Due.BEYOND);
        due.is("15: hanger least", x.catches(Due.LEAST, 0), Due.BEYOND);
    }

    private static void tangled() {
        HangerRail x = Due.told("wire at 3; wood at 1; wood at 2; wood at 4; wood at 5; wood at 6; wire");
        due.is("14: both sides", x.tangled(0), Due.set(1, 2, 3, 4));
        due.is("14: too far", x.tangled(5), 0);
        due.is("14: OUT", x.tangled(6), 0);
        due.is("14: hanger 7", x.tangled(7), Due.BEYOND);
        due.is("14: hanger -1", x.tangled(-1), Due.BEYOND);
        HangerRail ends = Due.told("wire at 0; wire at 23; wire at 1; wire at 22");
        due.is("14: the left end", ends.tangled(0), Due.set(2));
        due.is("14: the right end", ends.tangled(1), Due.set(3));
    }

    private static void comes() {
        HangerRail x = Due.told("wire at 2; wire at 4; wire at 6; wire at 20; wire; bar at 21");
        due.is("16: lifted", x.comes(0, 0), Due.set(0, 1, 2));
        due.is("16: lifted in the middle", x.comes(1, 0), Due.set(0, 1, 2));
        due.is("16: turned", x.comes(0, 1), Due.set(0, 1));
        due.is("16: turned in the middle", x.comes(1, 1), Due.set(0, 1, 2));
        due.is("16: pushed", x.comes(1, 2), Due.set(1));
        due.is("16: nobody is free enough", x.comes(5, 2), Due.STATE);
        due.is("16: caught by another", x.comes(5, 1), Due.set(3, 5));
        due.is("16: OUT", x.comes(4, 0), Due.STATE);
        due.is("16: manner 3", x.comes(0, 3), Due.BEYOND);
        due.is("16: manner -1", x.comes(0, -1), Due.BEYOND);
        due.is("16: hanger 6", x.comes(6, 0), Due.BEYOND);
        due.is("16: BEYOND before STATE", x.comes(4, 3), Due.BEYOND);
        due.is("16: nothing changes", x.now(1), Due.set(0, 1, 2, 3, 5));
        due.is("16: no moves", x.now(0), 0);
    }

    private static void falls() {
        HangerRail x = Due.told("wire at 2 shirt 4; wire at 4 shirt 4; wire at 6 shirt 4; wire shirt 9; wood at 12");
        due.is("17: lifted, but the wanted one's", x.falls(0, 0), 2);
        due.is("17: turned, the wanted one's too", x.falls(0, 1), 2);
        due.is("17: turned in the middle", x.falls(1, 1), 3);
        due.is("17: pushed", x.falls(1, 2), 0);
        due.is("17: no shirt", x.falls(4, 1), 0);
        due.is("17: OUT", x.falls(3, 0), Due.STATE);
        x.hang(3, 11);
        due.is("17: not as much free", x.falls(4, 2), Due.STATE);
        due.is("17: manner 3", x.falls(0, 3), Due.BEYOND);
        due.is("17: hanger 5", x.falls(5, 0), Due.BEYOND);
        due.is("17: nothing changes", x.now(4), 21);
        int[] holds = {5, 3, 8, 2, 7, 9};
        for (int k = 0; k < 6; k++) {
            for (int slip = 0; slip <= 9; slip++) {
                HangerRail y = new HangerRail();
                y.hanger(k);
                y.hang(0, 9);
                y.set(0, 3, slip);
                due.is("17: kind " + k + " slip " + slip, y.falls(0, 1), slip > holds[k] ? 1 : 0);
            }
        }
    }

    private static void heaps() {
        HangerRail x = new HangerRail();
        due.is("18: nothing", x.heaps(), 0);
        due.is("19: nothing", x.greatest(), Due.NONE);
        Due.rail(x, "wire at 2; wire at 4; wire at 6; wire at 20; wire; wood at 9; hanger at 10");
        due.is("18: a chain, one alone, a pair", x.heaps(), 3);
        due.is("19: the chain", x.greatest(), 3);
        x.face(1);
        due.is("18: the chain is apart", x.heaps(), 5);
        due.is("19: the pair", x.greatest(), 2);
        due.is("19: one alone", Due.told("wood at 5").greatest(), 1);
        due.is("19: a pair", Due.told("wire at 5; wood at 7").greatest(), 2);
        HangerRail full = new HangerRail();
        for (int h = 0; h < 12; h++) {
            full.hanger(1);
            full.hang(h, 2 * (h * 5 % 12));
        }
        due.is("18: one heap of all", full.heaps(), 1);
        due.is("19: all", full.greatest(), 12);
    }
}
