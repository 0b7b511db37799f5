import java.util.function.Supplier;

/** Each finding of promises 29 to 42, in the order in which they are asked, and what stands after it. */
public final class RefusedSheetsTest {
    private static final Due due = new Due();
    private static final Twins twins = new Twins(due);
    private static final Supplier<HangerRail> FRESH = Twins::fresh;
    /** Sheets of 6 numbers of 16 bits, 5 of 8, 3 of 16; sheet 3 is MISSING. */
    private static final Supplier<HangerRail> SOME = Twins::some;
    /** Sheets of 3 numbers of 64 bits, none of 8, 40 of 16; sheet 3 is MISSING. */
    private static final Supplier<HangerRail> FULL = Twins::full;
    private static final int[] BITS = {8, 16, 64};
    private static final int[] NO_BITS = {-64, -16, -8, -1, 1, 2, 4, 7, 9, 15, 17, 24, 32, 63, 65, 128, 256, 264, 65536, Due.LEAST, Due.MOST};

    public static void main(String[] args) {
        feedBeyond();
        feedFull();
        sheetBeyond();
        sheetSize();
        sheetOrder();
        write();
        copyBeyondAndMissing();
        copyKind();
        copyNumbers();
        rows();
        undo();
        countAndStatus();
        due.end();
    }

    private static void feedBeyond() {
        for (int n : Twins.outside(1, 4)) {
            twins.refused("29: BEYOND feed(-1, " + n + ")", FRESH, x -> x.feed(-1, n), Due.BEYOND);
            twins.refused("29: BEYOND feed(59, " + n + ")", SOME, x -> x.feed(59, n), Due.BEYOND);
            twins.refused("29: BEYOND, not FULL, feed(32, " + n + ")", FULL, x -> x.feed(32, n), Due.BEYOND);
        }
    }

    /** With room for none, one, two or three: FULL for each more, and none of its bytes comes. */
    private static void feedFull() {
        for (int r = 0; r < 4; r++) {
            int room = r;
            Supplier<HangerRail> scene = () -> {
                HangerRail x = new HangerRail();
                Twins.feed(x, "price 5" + " ".repeat(113 - room));
                return x;
            };
            for (int m = room + 1; m <= 4; m++) {
                int n = m;
                twins.refused("29: FULL, " + n + " where is room for " + room, scene, x -> x.feed(0x20202020, n), Due.FULL);
            }
            for (int n = 1; n <= room; n++) {
                due.is("29: " + n + " where is room for " + room, scene.get().feed(0x20202020, n), 120 - room + n);
            }
        }
    }

    private static void sheetBeyond() {
        for (int s : Twins.outside(0, 3)) {
            for (int bits : new int[] {0, 8, 16, 64}) {
                twins.refused("32: BEYOND sheet(" + s + ", " + bits + ", 1)", SOME, x -> x.sheet(s, bits, 1), Due.BEYOND);
            }
        }
        for (int bits : NO_BITS) {
            twins.refused("32: BEYOND sheet(0, " + bits + ", 1)", SOME, x -> x.sheet(0, bits, 1), Due.BEYOND);
            twins.refused("32: BEYOND sheet(3, " + bits + ", 1)", SOME, x -> x.sheet(3, bits, 1), Due.BEYOND);
        }
    }

    private static void sheetSize() {
        for (int bits : new int[] {0, 8, 16, 64}) {
            for (int n : new int[] {-1, -2, -40, -256, Due.LEAST}) {
                twins.refused("32: SIZE sheet(0, " + bits + ", " + n + ")", SOME, x -> x.sheet(0, bits, n), Due.SIZE);
                twins.refused("32: SIZE sheet(3, " + bits + ", " + n + ")", SOME, x -> x.sheet(3, bits, n), Due.SIZE);
            }
            for (int n : new int[] {41, 42, 256, 65536, Due.MOST}) {
                twins.refused("32: BEYOND sheet(0, " + bits + ", " + n + ")", SOME, x -> x.sheet(0, bits, n), Due.BEYOND);
                twins.refused("32: BEYOND sheet(3, " + bits + ", " + n + ")", SOME, x -> x.sheet(3, bits, n), Due.BEYOND);
            }
        }
    }

    private static void sheetOrder() {
        twins.refused("32: no such sheet ahead of SIZE", SOME, x -> x.sheet(4, 8, -1), Due.BEYOND);
        twins.refused("32: no such sheet below 0 ahead of SIZE", SOME, x -> x.sheet(-1, 0, -1), Due.BEYOND);
        twins.refused("32: other bits ahead of SIZE", SOME, x -> x.sheet(0, 32, -1), Due.BEYOND);
        twins.refused("32: bits below 0 ahead of SIZE", SOME, x -> x.sheet(0, -8, Due.LEAST), Due.BEYOND);
    }

    private static void write() {
        for (int s : Twins.outside(0, 3)) {
            twins.refused("33: BEYOND write(" + s + ", 0, 1)", SOME, x -> x.write(s, 0, 1), Due.BEYOND);
            twins.refused("33: BEYOND, not MISSING, write(" + s + ", 0, 1)", FRESH, x -> x.write(s, 0, 1), Due.BEYOND);
        }
        for (int i : new int[] {0, 39, 40, -1, Due.LEAST, Due.MOST}) {
            twins.refused("33: MISSING write(3, " + i + ", 1)", SOME, x -> x.write(3, i, 1), Due.MISSING);
            twins.refused("33: MISSING at first, write(0, " + i + ", 1)", FRESH, x -> x.write(0, i, 1), Due.MISSING);
        }
        int[] sizes = {6, 5, 3};
        for (int t = 0; t < 3; t++) {
            int s = t;
            for (int i : Twins.outside(0, sizes[s] - 1)) {
                twins.refused("33: BEYOND write(" + s + ", " + i + ", 1)", SOME, x -> x.write(s, i, 1), Due.BEYOND);
            }
        }
        for (int i : new int[] {-1, 0, 1, 39}) {
            twins.refused("33: BEYOND of a sheet of none, " + i, FULL, x -> x.write(1, i, 1), Due.BEYOND);
        }
        for (int i : Twins.outside(0, 39)) {
            twins.refused("33: BEYOND of a sheet of 40, " + i, FULL, x -> x.write(2, i, 1), Due.BEYOND);
        }
    }

    private static void copyBeyondAndMissing() {
        for (int s : Twins.outside(0, 3)) {
            twins.refused("34: BEYOND copy from sheet " + s, SOME, x -> x.copy(s, 0, 0, 0, 1), Due.BEYOND);
            twins.refused("34: BEYOND copy to sheet " + s, SOME, x -> x.copy(0, 0, s, 0, 1), Due.BEYOND);
            twins.refused("34: BEYOND, not MISSING, copy from sheet " + s, SOME, x -> x.copy(s, 0, 3, 0, 1), Due.BEYOND);
            twins.refused("34: BEYOND, not MISSING, copy to sheet " + s, SOME, x -> x.copy(3, 0, s, 0, 1), Due.BEYOND);
        }
        twins.refused("34: MISSING, the first", SOME, x -> x.copy(3, 0, 0, 0, 1), Due.MISSING);
        twins.refused("34: MISSING, the second", SOME, x -> x.copy(0, 0, 3, 0, 1), Due.MISSING);
        twins.refused("34: MISSING, both", SOME, x -> x.copy(3, 0, 3, 0, 0), Due.MISSING);
        twins.refused("34: MISSING ahead of the numbers, the first", SOME, x -> x.copy(3, -1, 0, 99, -1), Due.MISSING);
        twins.refused("34: MISSING ahead of the numbers, the second", SOME, x -> x.copy(0, -1, 3, 99, -1), Due.MISSING);
    }

    private static void copyKind() {
        for (int a : BITS) {
            for (int b : BITS) {
                Supplier<HangerRail> scene = () -> {
                    HangerRail x = new HangerRail();
                    Twins.row(x, 1, a, 1, 2, 3);
                    Twins.row(x, 2, b, 4, 5, 6);
                    return x;
                };
                if (a != b) {
                    String call = " from " + a + " bits to " + b;
                    twins.refused("34: KIND" + call, scene, x -> x.copy(1, 0, 2, 0, 1), Due.KIND);
                    twins.refused("34: KIND of no numbers" + call, scene, x -> x.copy(1, 0, 2, 0, 0), Due.KIND);
                    twins.refused("34: KIND ahead of the numbers" + call, scene, x -> x.copy(1, -1, 2, 4, 9), Due.KIND);
                } else {
                    due.is("34: as many bits, " + a, scene.get().copy(1, 0, 2, 0, 3), 3);
                }
            }
        }
    }

    /** From 6 numbers to 3: what is below 0, what one or the other has not, and sums that wrap. */
    private static void copyNumbers() {
        int[][] wrong = {
            {-1, 0, 1}, {0, -1, 1}, {0, 0, -1}, {-1, 0, 0}, {0, -1, 0}, {-1, -1, -1}, {1, 1, -1}, {2, 2, -2},
            {0, 0, 4}, {6, 0, 1}, {5, 0, 2}, {4, 0, 3}, {7, 0, 0}, {0, 3, 1}, {0, 2, 2}, {0, 1, 3}, {0, 4, 0}, {3, 1, 3},
            {Due.MOST, 0, 1}, {0, Due.MOST, 1}, {0, 0, Due.MOST}, {1, 0, Due.MOST}, {0, 1, Due.MOST}, {Due.MOST, Due.MOST, Due.MOST},
            {Due.MOST, Due.MOST, 2}, {Due.LEAST, 0, 1}, {0, Due.LEAST, 1}, {0, 0, Due.LEAST}, {Due.LEAST, Due.LEAST, Due.LEAST},
            {5, 2, Due.LEAST}, {256, 0, 1}, {0, 256, 1}, {0, 0, 256}, {65536, 65536, 65536},
        };
        for (int[] w : wrong) {
            String call = "34: BEYOND copy(0, " + w[0] + ", 2, " + w[1] + ", " + w[2] + ")";
            twins.refused(call, SOME, x -> x.copy(0, w[0], 2, w[1], w[2]), Due.BEYOND);
        }
        twins.refused("34: BEYOND, the first has not so many", SOME, x -> x.copy(2, 1, 0, 0, 3), Due.BEYOND);
        twins.refused("34: BEYOND within one", SOME, x -> x.copy(0, 1, 0, 0, 6), Due.BEYOND);
        twins.refused("34: BEYOND of 40", FULL, x -> x.copy(2, 0, 2, 0, 41), Due.BEYOND);
        twins.refused("34: BEYOND of none", FULL, x -> x.copy(1, 0, 1, 0, 1), Due.BEYOND);
        int[][] right = {{0, 0, 3}, {3, 0, 3}, {5, 2, 1}, {6, 3, 0}, {0, 0, 0}, {6, 0, 0}, {0, 3, 0}};
        for (int[] r : right) {
            String call = "34: copy(0, " + r[0] + ", 2, " + r[1] + ", " + r[2] + ")";
            due.is(call, SOME.get().copy(0, r[0], 2, r[1], r[2]), r[2]);
        }
        due.is("34: all 40 to itself", FULL.get().copy(2, 0, 2, 0, 40), 40);
        due.is("34: none of none", FULL.get().copy(1, 0, 1, 0, 0), 0);
    }

    private static void rows() {
        for (int s : Twins.outside(0, 3)) {
            for (Supplier<HangerRail> scene : java.util.List.of(FRESH, SOME, FULL)) {
                twins.refused("35: BEYOND lays(" + s + ")", scene, x -> x.lays(s), Due.BEYOND);
                twins.refused("36: BEYOND book(" + s + ")", scene, x -> x.book(s), Due.BEYOND);
                twins.refused("37: BEYOND read(" + s + ")", scene, x -> x.read(s), Due.BEYOND);
            }
        }
        for (int t = 0; t < 4; t++) {
            int s = t;
            Supplier<HangerRail> torn = () -> {
                HangerRail x = SOME.get();
                x.sheet(s, 0, 5);
                return x;
            };
            for (Supplier<HangerRail> scene : java.util.List.of(FRESH, torn)) {
                twins.refused("35: MISSING lays(" + s + ")", scene, x -> x.lays(s), Due.MISSING);
                twins.refused("36: MISSING book(" + s + ")", scene, x -> x.book(s), Due.MISSING);
                twins.refused("37: MISSING read(" + s + ")", scene, x -> x.read(s), Due.MISSING);
            }
        }
    }

    private static void undo() {
        twins.refused("39: NONE at first", FRESH, x -> x.undo(), Due.NONE);
        twins.refused("39: NONE with hangers", Twins::out, x -> x.undo(), Due.NONE);
        Supplier<HangerRail> torn = () -> {
            HangerRail x = SOME.get();
            x.tear();
            return x;
        };
        twins.refused("39: NONE any more", torn, x -> x.undo(), Due.NONE);
    }

    private static void countAndStatus() {
        for (int what : Twins.outside(0, 3)) {
            twins.refused("41: BEYOND count(" + what + ")", FRESH, x -> x.count(what), Due.BEYOND);
            twins.refused("41: BEYOND count(" + what + ") of some", SOME, x -> x.count(what), Due.BEYOND);
        }
        for (int which : Twins.outside(-1, 6)) {
            twins.refused("42: BEYOND status(" + which + ")", FRESH, x -> x.status(which), Due.BEYOND);
            twins.refused("42: BEYOND status(" + which + ") of some", SOME, x -> x.status(which), Due.BEYOND);
        }
    }
}
