/** Promises 32 to 37: sheets. */
public final class SheetsTest {
    private static final Due due = new Due();

    public static void main(String[] args) {
        sheet();
        write();
        copy();
        lays();
        book();
        read();
        due.end();
    }

    private static void sheet() {
        HangerRail x = new HangerRail();
        due.is("32: 8 bits", x.sheet(0, 8, 40), 40);
        due.is("32: 16 bits", x.sheet(3, 16, 1), 1);
        due.is("32: 64 bits", x.sheet(1, 64, 0), 0);
        due.is("32: sheet 4", x.sheet(4, 8, 1), Due.BEYOND);
        due.is("32: sheet -1", x.sheet(-1, 8, 1), Due.BEYOND);
        for (int bits : new int[] {-8, 1, 7, 9, 32, 65, Due.MOST}) {
            due.is("32: bits " + bits, x.sheet(0, bits, 1), Due.BEYOND);
        }
        due.is("32: bits before SIZE", x.sheet(0, 32, -1), Due.BEYOND);
        due.is("32: sheet before SIZE", x.sheet(4, 8, -1), Due.BEYOND);
        due.is("32: n -1", x.sheet(0, 8, -1), Due.SIZE);
        due.is("32: n least", x.sheet(0, 64, Due.LEAST), Due.SIZE);
        due.is("32: n 41", x.sheet(0, 8, 41), Due.BEYOND);
        due.is("32: n -1 with bits 0", x.sheet(0, 0, -1), Due.SIZE);
        due.is("32: n 41 with bits 0", x.sheet(0, 0, 41), Due.BEYOND);
        due.is("32: still 40 numbers", x.write(0, 39, 7), 0);
        due.is("32: laid anew", x.sheet(0, 8, 40), 40);
        due.is("32: all 0", x.write(0, 39, 7), 0);
        x.write(0, 0, 7);
        due.is("32: laid anew once more", x.sheet(0, 8, 40), 40);
        due.is("32: the first is 0", x.write(0, 0, 7), 0);
        due.is("32: missing", x.sheet(0, 0, 40), 0);
        due.is("32: it is missing", x.write(0, 0, 7), Due.MISSING);
        due.is("32: fewer", x.sheet(0, 8, 2), 2);
        due.is("32: no third", x.write(0, 2, 7), Due.BEYOND);
    }

    private static void write() {
        HangerRail x = new HangerRail();
        x.sheet(0, 8, 3);
        x.sheet(1, 16, 3);
        x.sheet(2, 64, 3);
        due.is("33: sheet 4", x.write(4, 0, 1), Due.BEYOND);
        due.is("33: sheet -1", x.write(-1, 0, 1), Due.BEYOND);
        due.is("33: missing", x.write(3, 0, 1), Due.MISSING);
        due.is("33: missing before number", x.write(3, 50, 1), Due.MISSING);
        due.is("33: number 3", x.write(0, 3, 1), Due.BEYOND);
        due.is("33: number -1", x.write(0, -1, 1), Due.BEYOND);
        due.is("33: number most", x.write(0, Due.MOST, 1), Due.BEYOND);
        long v = 0x123456789abcdeffL;
        x.write(0, 1, v);
        x.write(1, 1, v);
        x.write(2, 1, v);
        due.is("33: the lowest 8", x.write(0, 1, 128), -1);
        due.is("33: the lowest 16", x.write(1, 1, 32768), (short) 0xdeff);
        due.is("33: all 64", x.write(2, 1, Long.MIN_VALUE), v);
        due.is("33: 128 in 8", x.write(0, 1, 127), -128);
        due.is("33: 32768 in 16", x.write(1, 1, 32767), -32768);
        due.is("33: the least in 64", x.write(2, 1, Due.BEYOND), Long.MIN_VALUE);
        due.is("33: 127 in 8", x.write(0, 1, 0), 127);
        due.is("33: 32767 in 16", x.write(1, 1, 0), 32767);
        due.is("33: a number like a finding", x.write(2, 1, 0), Due.BEYOND);
        due.is("33: its neighbours are 0", x.write(0, 0, 0), 0);
        due.is("33: and on the other side", x.write(0, 2, 0), 0);
        due.is("33: five findings BEYOND", x.status(0), 5);
    }

    private static void copy() {
        HangerRail x = new HangerRail();
        x.sheet(0, 16, 5);
        x.sheet(1, 16, 3);
        x.sheet(2, 64, 5);
        for (int i = 0; i < 5; i++) {
            x.write(0, i, 10 + i);
        }
        due.is("34: two of them", x.copy(0, 3, 1, 1, 2), 2);
        due.is("34: the first is as it was", x.write(1, 0, 0), 0);
        due.is("34: 13", x.write(1, 1, 0), 13);
        due.is("34: 14", x.write(1, 2, 0), 14);
        due.is("34: to the right in itself", x.copy(0, 0, 0, 1, 4), 4);
        int[] right = {10, 10, 11, 12, 13};
        for (int i = 0; i < 5; i++) {
            due.is("34: as they all were, right " + i, x.write(0, i, 20 + i), right[i]);
        }
        due.is("34: to the left in itself", x.copy(0, 2, 0, 0, 3), 3);
        int[] left = {22, 23, 24, 23, 24};
        for (int i = 0; i < 5; i++) {
            due.is("34: as they all were, left " + i, x.write(0, i, 0), left[i]);
        }
        due.is("34: none", x.copy(0, 5, 1, 3, 0), 0);
        due.is("34: none, but from beyond", x.copy(0, 6, 1, 3, 0), Due.BEYOND);
        due.is("34: none, but to beyond", x.copy(0, 5, 1, 4, 0), Due.BEYOND);
        due.is("34: sheet 4", x.copy(4, 0, 1, 0, 1), Due.BEYOND);
        due.is("34: to sheet -1", x.copy(0, 0, -1, 0, 1), Due.BEYOND);
        due.is("34: no such sheet before MISSING", x.copy(3, 0, 4, 0, 1), Due.BEYOND);
        due.is("34: from a missing one", x.copy(3, 0, 1, 0, 1), Due.MISSING);
        due.is("34: to a missing one", x.copy(1, 0, 3, 0, 1), Due.MISSING);
        due.is("34: other bits", x.copy(0, 0, 2, 0, 1), Due.KIND);
        due.is("34: KIND before the numbers", x.copy(0, -1, 2, 0, 1), Due.KIND);
        due.is("34: from -1", x.copy(0, -1, 1, 0, 1), Due.BEYOND);
        due.is("34: to -1", x.copy(0, 0, 1, -1, 1), Due.BEYOND);
        due.is("34: n -1", x.copy(0, 0, 1, 0, -1), Due.BEYOND);
        due.is("34: the source has not so many", x.copy(1, 1, 0, 0, 3), Due.BEYOND);
        due.is("34: the target has not so many", x.copy(0, 0, 1, 1, 3), Due.BEYOND);
        due.is("34: most", x.copy(0, Due.MOST, 1, Due.MOST, Due.MOST), Due.BEYOND);
        due.is("34: least", x.copy(0, Due.LEAST, 1, Due.LEAST, Due.LEAST), Due.BEYOND);
    }

    private static void lays() {
        HangerRail x = Due.told("wire; wire at 8; wood; bar; bent");
        due.is("35: sheet 4", x.lays(4), Due.BEYOND);
        due.is("35: sheet -1", x.lays(-1), Due.BEYOND);
        due.is("35: missing", x.lays(0), Due.MISSING);
        x.sheet(0, 64, 7);
        long[] places = {23, 3, 8, 23, 0, 1, 2};
        for (int i = 0; i < 7; i++) {
            x.write(0, i, places[i]);
        }
        due.is("35: 0 and 4", x.lays(0), 2);
        due.is("35: 0", x.of(0, 1), 23);
        due.is("35: 1 was not OUT", x.of(1, 1), 8);
        due.is("35: 8 is not free", x.of(2, 1), -1);
        due.is("35: 23 is not free any more", x.of(3, 1), -1);
        due.is("35: 4", x.of(4, 1), 0);
        due.is("35: none for 5", x.at(1), Due.NONE);
        due.is("35: two moves", x.now(0), 2);
        x.write(0, 2, 24);
        x.write(0, 3, -1);
        due.is("35: beyond the rail", x.lays(0), 0);
        x.write(0, 2, 1L << 32);
        x.write(0, 3, Long.MIN_VALUE);
        due.is("35: far beyond the rail", x.lays(0), 0);
        x.sheet(1, 8, 3);
        x.write(1, 2, 12);
        due.is("35: a short sheet", x.lays(1), 1);
        due.is("35: 2 at 12", x.at(12), 2);
        due.is("35: three moves", x.now(0), 3);
    }

    private static void book() {
        HangerRail x = Due.told("wire at 20; wire; wood at 0; bar at 5");
        due.is("36: sheet 4", x.book(4), Due.BEYOND);
        due.is("36: missing", x.book(2), Due.MISSING);
        for (int s = 0; s < 3; s++) {
            x.sheet(s, s == 0 ? 8 : s == 1 ? 16 : 64, 5);
            x.write(s, 4, 77);
            due.is("36: three", x.book(s), 3);
            int[] want = {2, 3, 0, -1, -1};
            for (int i = 0; i < 5; i++) {
                due.is("36: sheet " + s + " number " + i, x.write(s, i, 0), want[i]);
            }
        }
        x.sheet(0, 8, 2);
        due.is("36: a short sheet", x.book(0), 3);
        due.is("36: the first", x.write(0, 0, 0), 2);
        due.is("36: the second", x.write(0, 1, 0), 3);
    }

    private static void read() {
        HangerRail x = Due.told("wire at 2; wire at 4; wire at 6; wire at 20; wire");
        due.is("37: sheet -1", x.read(-1), Due.BEYOND);
        due.is("37: missing", x.read(0), Due.MISSING);
        x.sheet(0, 64, 2);
        x.write(0, 0, 3);
        x.write(0, 1, 3);
        due.is("37: not twice", x.read(0), 2);
        x.write(0, 1, 1);
        due.is("37: not alone", x.read(0), 2);
        x.write(0, 1, 4);
        due.is("37: OUT", x.read(0), 2);
        x.write(0, 1, 5);
        due.is("37: no such one", x.read(0), 2);
        x.write(0, 0, 3 + (1L << 32));
        due.is("37: far beyond", x.read(0), 1);
        x.write(0, 0, -1);
        due.is("37: -1", x.read(0), 1);
        x.sheet(1, 8, 4);
        x.face(1);
        x.write(1, 0, 1);
        x.write(1, 1, 0);
        x.write(1, 2, 3);
        x.write(1, 3, 2);
        due.is("37: each alone", x.read(1), 0);
        due.is("37: nothing changes", x.now(1), Due.set(0, 1, 2, 3));
        due.is("37: no moves but the one", x.now(0), 1);
        x.sheet(2, 16, 0);
        due.is("37: no numbers", x.read(2), 0);
    }
}
