/** Promises 9 to 13: hung, faced, shifted, taken, and what is now. */
public final class MovesTest {
    private static final Due due = new Due();

    public static void main(String[] args) {
        hang();
        face();
        shift();
        takeLifted();
        takeTurned();
        takePushed();
        takeWrong();
        now();
        due.end();
    }

    private static void hang() {
        HangerRail x = Due.told("wire; wire; wood");
        due.is("9: at 0", x.hang(0, 0), 1);
        due.is("9: at 23", x.hang(2, 23), 2);
        due.is("9: where it is", x.of(2, 1), 23);
        due.is("9: who is there", x.at(23), 2);
        due.is("9: it isn't OUT", x.hang(0, 5), Due.STATE);
        due.is("9: not free", x.hang(1, 23), Due.STATE);
        due.is("9: place 24", x.hang(1, 24), Due.BEYOND);
        due.is("9: place -1", x.hang(1, -1), Due.BEYOND);
        due.is("9: hanger 3", x.hang(3, 5), Due.BEYOND);
        due.is("9: BEYOND before STATE", x.hang(0, 24), Due.BEYOND);
        due.is("9: moves", x.now(0), 2);
        due.is("9: still OUT", x.of(1, 1), -1);
    }

    private static void face() {
        HangerRail x = Due.told("wire; wire at 3 back");
        due.is("10: OUT", x.face(0), 1);
        due.is("10: back again", x.face(0), 0);
        due.is("10: on the rail", x.face(1), 0);
        due.is("10: where it is", x.of(1, 1), 3);
        due.is("10: moves", x.now(0), 3);
        due.is("10: hanger 2", x.face(2), Due.BEYOND);
        due.is("10: hanger -1", x.face(-1), Due.BEYOND);
        due.is("10: no more moves", x.now(0), 3);
    }

    private static void shift() {
        HangerRail x = Due.told("wire at 3; wire at 4; wood");
        due.is("11: over another", x.shift(0, 2), 5);
        due.is("11: left is free", x.at(3), Due.NONE);
        due.is("11: who is there", x.at(5), 0);
        due.is("11: to the left end", x.shift(0, -5), 0);
        due.is("11: the whole rail", x.shift(0, 23), 23);
        due.is("11: back over the whole rail", x.shift(0, -23), 0);
        due.is("11: moves", x.now(0), 4);
        due.is("11: not free", x.shift(0, 4), Due.STATE);
        due.is("11: its own", x.shift(0, 0), Due.STATE);
        due.is("11: left of the rail", x.shift(0, -1), Due.STATE);
        due.is("11: right of the rail", x.shift(0, 24), Due.STATE);
        due.is("11: least", x.shift(1, Due.LEAST), Due.STATE);
        due.is("11: most", x.shift(1, Due.MOST), Due.STATE);
        due.is("11: OUT", x.shift(2, 1), Due.STATE);
        due.is("11: hanger 3", x.shift(3, 1), Due.BEYOND);
        due.is("11: no more moves", x.now(0), 4);
        due.is("11: where it was", x.of(0, 1), 0);
    }

    private static void takeLifted() {
        // 0, 1, 2 are a chain; 3 is far off.
        HangerRail x = Due.told("wire at 2 shirt 9; wire at 4 shirt 4; wire at 6 shirt 3; wire at 20 shirt 9");
        due.is("12: lifted", x.take(0, 0), Due.set(0, 1, 2));
        due.is("12: the wanted one's stays", x.of(0, 3), 9);
        due.is("12: above HOLDS falls", x.of(1, 3), 0);
        due.is("12: as HOLDS stays", x.of(2, 3), 3);
        due.is("12: not one that stays", x.of(3, 3), 9);
        due.is("12: on the rail", x.now(1), Due.set(3));
        due.is("12: one move", x.now(0), 1);
        due.is("12: the place is free", x.at(4), Due.NONE);
    }

    private static void takeTurned() {
        HangerRail x = Due.told("wire at 2 shirt 4; wire at 4 shirt 4; wire at 6 shirt 4; wire at 8 shirt 3");
        due.is("12: turned", x.take(1, 1), Due.set(0, 1, 2));
        due.is("12: the wanted one's falls, too", x.of(1, 3), 0);
        due.is("12: of the one at the left", x.of(0, 3), 0);
        due.is("12: of the one at the right", x.of(2, 3), 0);
        due.is("12: the last one turned", x.take(3, 1), Due.set(3));
        due.is("12: its shirt is held", x.of(3, 3), 3);
        due.is("12: two moves", x.now(0), 2);
    }

    private static void takePushed() {
        HangerRail x = Due.told("wire at 2 shirt 9; bent at 3 shirt 9; wire at 4 shirt 9");
        due.is("12: needs two", x.take(1, 2), Due.STATE);
        due.is("12: pushed", x.take(0, 2), Due.set(0));
        due.is("12: its shirt stays", x.of(0, 3), 9);
        due.is("12: one free is too few", x.take(1, 2), Due.STATE);
        due.is("12: pushed, too", x.take(2, 2), Due.set(2));
        due.is("12: two free", x.take(1, 2), Due.set(1));
        HangerRail y = Due.told("wood at 0; bar at 23; hanger at 11");
        due.is("12: beyond the left end nothing is free", y.take(0, 2), Due.STATE);
        due.is("12: beyond the right end nothing is free", y.take(1, 2), Due.STATE);
        due.is("12: a hanger at the end", y.shift(2, 11), 22);
        due.is("12: has one free", y.take(2, 2), Due.set(2));
    }

    private static void takeWrong() {
        HangerRail x = Due.told("wire at 2; wire");
        due.is("12: manner 3", x.take(0, 3), Due.BEYOND);
        due.is("12: manner -1", x.take(0, -1), Due.BEYOND);
        due.is("12: hanger 2", x.take(2, 0), Due.BEYOND);
        due.is("12: hanger -1", x.take(-1, 0), Due.BEYOND);
        due.is("12: BEYOND before STATE", x.take(1, 3), Due.BEYOND);
        for (int m = 0; m < 3; m++) {
            due.is("12: OUT", x.take(1, m), Due.STATE);
        }
        due.is("12: no moves", x.now(0), 0);
        due.is("12: still there", x.now(1), Due.set(0));
    }

    private static void now() {
        HangerRail x = Due.told("wire at 2 shirt 9; wire at 4; wire at 6 shirt 1; wood shirt 5; price 70");
        int[] want = {0, Due.set(0, 1, 2), 2, 3, 15, 70, 21};
        for (int what = 0; what < 7; what++) {
            due.is("13: now(" + what + ")", x.now(what), want[what]);
        }
        due.is("13: now(-1)", x.now(-1), Due.BEYOND);
        due.is("13: now(7)", x.now(7), Due.BEYOND);
        x.face(1);
        due.is("13: none is tangled", x.now(2), 0);
        due.is("13: a move", x.now(0), 1);
        HangerRail full = new HangerRail();
        for (int h = 0; h < 12; h++) {
            full.hanger(1);
            full.hang(h, h);
        }
        due.is("13: 11 next to one another, 10 next but one", full.now(2), 21);
        due.is("13: all on the rail", full.now(1), 4095);
        due.is("13: half is free", full.now(6), 12);
    }
}
