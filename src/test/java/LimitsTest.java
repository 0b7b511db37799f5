/** The numbers that the document's "Terms" name: the least and the most that may be, what is at first, and what wraps. */
public final class LimitsTest {
    private static final Due due = new Due();
    private static final String[] NAMES = {"hanger", "wire", "wood", "bent", "strap", "bar"};
    private static final int[] HOLDS = {5, 3, 8, 2, 7, 9};

    public static void main(String[] args) {
        atFirst();
        places();
        placesInAText();
        shiftToTheEnds();
        twelveHangers();
        twelveByText();
        roomAgainAfterUndo();
        prices();
        slipsAndFeels();
        movesByOne();
        movesHeld();
        movesHeldByLays();
        catchesAtAllDistances();
        holds();
        sheetNumbers();
        numbersWrap();
        bytesOfANumber();
        tape();
        due.end();
    }

    private static void atFirst() {
        HangerRail x = new HangerRail();
        due.is("1: no hangers", x.count(0), 0);
        due.is("1: the tape is empty", x.count(1), 0);
        due.is("1: nothing is on the rail", x.count(2), 0);
        due.is("1: nothing faces 1", x.count(3), 0);
        int[] now = {0, 0, 0, 0, 0, 4, 24};
        for (int what = 0; what < 7; what++) {
            due.is("1: now(" + what + ")", x.now(what), now[what]);
        }
        for (int which = -1; which < 7; which++) {
            due.is("1: status(" + which + ")", x.status(which), 0);
        }
        due.is("1: no image is kept", x.tear(), 0);
        for (int s = 0; s < 4; s++) {
            due.is("1: sheet " + s + " is MISSING", x.write(s, 0, 1), Due.MISSING);
        }
    }

    private static void places() {
        for (int place = 0; place < 24; place++) {
            HangerRail x = new HangerRail();
            x.hanger(0);
            due.is("9: hang(0, " + place + ")", x.hang(0, place), 1);
            due.is("8: at(" + place + ")", x.at(place), 0);
            due.is("3: AT " + place, x.of(0, 1), place);
            due.is("13: on the rail", x.now(1), 1);
            due.is("13: free places", x.now(6), 23);
        }
    }

    private static void placesInAText() {
        for (int place = 0; place < 24; place++) {
            HangerRail x = new HangerRail();
            due.is("31: at " + place, Due.rail(x, "wood at " + place), 1);
            due.is("31: AT " + place, x.of(0, 1), place);
            due.is("31: who is at " + place, x.at(place), 0);
            due.is("31: no such hanger there, at " + place, Due.rail(x, "wire at " + place), -9);
            due.is("31: one hanger", x.count(0), 1);
        }
    }

    private static void shiftToTheEnds() {
        for (int place = 0; place < 24; place++) {
            HangerRail x = new HangerRail();
            x.hanger(1);
            x.hang(0, place);
            if (place > 0) {
                due.is("11: from " + place + " to the left end", x.shift(0, -place), 0);
                due.is("11: and back", x.shift(0, place), place);
            }
            if (place < 23) {
                due.is("11: from " + place + " to the right end", x.shift(0, 23 - place), 23);
            }
        }
    }

    private static void twelveHangers() {
        HangerRail x = new HangerRail();
        for (int h = 0; h < 12; h++) {
            due.is("2: a hanger's number", x.hanger(h % 6), h);
            due.is("9: all of them fit", x.hang(h, 23 - h), h + 1);
        }
        due.is("2: a 13th", x.hanger(0), Due.FULL);
        due.is("13: all of them", x.now(1), 4095);
        due.is("13: half is free", x.now(6), 12);
        due.is("8: the last one", x.at(12), 11);
        due.is("3: of the last one", x.of(11, 0), 5);
    }

    private static void twelveByText() {
        HangerRail x = new HangerRail();
        for (int h = 0; h < 11; h++) {
            x.hanger(1);
        }
        due.is("31: the 12th, then a 13th", Due.rail(x, "bar;wood"), -5);
        due.is("31: none came", x.count(0), 11);
        due.is("31: the 12th", Due.rail(x, "bar"), 1);
        due.is("31: it is there", x.of(11, 0), 5);
        due.is("2: FULL", x.hanger(0), Due.FULL);
        for (String name : NAMES) {
            due.is("31: a 13th " + name, Due.rail(x, " " + name), -2);
        }
        due.is("31: twelve", x.count(0), 12);
    }

    private static void roomAgainAfterUndo() {
        HangerRail x = Due.told("wire;wire;wire;wire;wire;wire;wire;wire;wire;wire;wire");
        x.image();
        due.is("2: the 12th", x.hanger(5), 11);
        x.set(11, 3, 9);
        x.set(11, 4, 15);
        x.face(11);
        x.hang(11, 23);
        due.is("2: FULL", x.hanger(0), Due.FULL);
        due.is("39: eleven", x.undo(), 11);
        due.is("2: the 12th again", x.hanger(2), 11);
        int[] want = {2, -1, 0, 0, 0, 8, 2};
        for (int what = 0; what < 7; what++) {
            due.is("2: it is new, " + what, x.of(11, what), want[what]);
        }
        due.is("8: its place is free", x.at(23), Due.NONE);
        due.is("2: FULL again", x.hanger(0), Due.FULL);
    }

    private static void prices() {
        HangerRail x = new HangerRail();
        int was = 4;
        for (int v = 0; v <= 99; v++) {
            due.is("7: price(" + v + ")", x.price(v), was);
            due.is("13: PRICE " + v, x.now(5), v);
            was = v;
        }
        due.is("31: price 0", Due.rail(x, "price 0"), 1);
        due.is("13: PRICE 0", x.now(5), 0);
        due.is("31: price 99", Due.rail(x, "price 99"), 1);
        due.is("13: PRICE 99", x.now(5), 99);
        due.is("31: price 100", Due.rail(x, "price 100"), -7);
        due.is("13: PRICE is 99", x.now(5), 99);
    }

    private static void slipsAndFeels() {
        HangerRail x = Due.told("wire;wire");
        int was = 0;
        for (int v = 0; v <= 9; v++) {
            due.is("4: slip " + v, x.set(1, 3, v), was);
            due.is("3: SLIP " + v, x.of(1, 3), v);
            due.is("13: SHIRTS with " + v, x.now(3), v == 0 ? 0 : 1);
            due.is("13: SLIPS with " + v, x.now(4), v);
            was = v;
        }
        was = 0;
        for (int v = 0; v <= 15; v++) {
            due.is("4: feel " + v, x.set(1, 4, v), was);
            due.is("3: FEEL " + v, x.of(1, 4), v);
            was = v;
        }
        due.is("4: the other one's slip", x.of(0, 3), 0);
        due.is("4: the other one's feel", x.of(0, 4), 0);
        due.is("4: no shirt again", x.set(1, 3, 0), 9);
        due.is("13: no shirts", x.now(3), 0);
    }

    private static void movesByOne() {
        HangerRail x = Due.told("wire;wire;wood;bar at 12");
        due.is("31: a text makes no moves", x.now(0), 0);
        x.hang(0, 0);
        due.is("9: MOVES", x.now(0), 1);
        x.face(2);
        due.is("10: MOVES", x.now(0), 2);
        x.shift(0, 1);
        due.is("11: MOVES", x.now(0), 3);
        x.hang(1, 2);
        x.take(0, 0);
        due.is("12: MOVES, though two came", x.now(0), 5);
        Twins.row(x, 0, 8, 3, 7, 9, 11);
        due.is("35: three are hung", x.lays(0), 3);
        due.is("35: MOVES", x.now(0), 8);
        due.is("35: none is hung", x.lays(0), 0);
        due.is("35: no MOVES", x.now(0), 8);
        x.turn(0, 2);
        x.set(0, 3, 1);
        x.price(3);
        due.is("4: no MOVES by what is set", x.now(0), 8);
        x.take(0, 1);
        x.take(1, 2);
        due.is("12: MOVES by each manner", x.now(0), 10);
    }

    /** No object is promised to live so long, but MOVES are held all the same. */
    private static void movesHeld() {
        HangerRail x = Due.told("wire;wire at 3;wood");
        for (int i = 1; i <= 9998; i++) {
            x.face(2);
        }
        due.is("10: MOVES 9998", x.now(0), 9998);
        due.is("10: the 9999th", x.face(2), 1);
        due.is("10: MOVES 9999", x.now(0), 9999);
        due.is("10: one more", x.face(2), 0);
        due.is("10: MOVES are held", x.now(0), 9999);
        due.is("9: one more", x.hang(0, 5), 2);
        due.is("9: MOVES are held", x.now(0), 9999);
        due.is("11: one more", x.shift(0, 1), 6);
        due.is("11: MOVES are held", x.now(0), 9999);
        due.is("12: one more", x.take(0, 0), 1);
        due.is("12: MOVES are held", x.now(0), 9999);
        x.image();
        x.face(0);
        due.is("39: what was kept", x.undo(), 3);
        due.is("39: MOVES are held", x.now(0), 9999);
    }

    private static void movesHeldByLays() {
        HangerRail x = Due.told("wire;wire;wire");
        for (int i = 1; i <= 9998; i++) {
            x.face(2);
        }
        Twins.row(x, 0, 8, 3, 4, 5);
        due.is("35: three more", x.lays(0), 3);
        due.is("35: MOVES are held", x.now(0), 9999);
    }

    /** From each place to each other one; beyond two places nobody catches. */
    private static void catchesAtAllDistances() {
        for (int kind = 0; kind < 6; kind++) {
            for (int place = 0; place < 24; place++) {
                for (int other = 0; other < 24; other++) {
                    if (other != place) {
                        catchesFrom(kind, 0, place, other);
                        catchesFrom(kind, 1, place, other);
                        catchesFrom(kind, 9, place, other);
                    }
                }
            }
        }
    }

    private static void catchesFrom(int kind, int slip, int place, int other) {
        HangerRail x = new HangerRail();
        x.hanger(kind);
        x.hanger(2);
        x.set(0, 3, slip);
        x.hang(0, place);
        x.hang(1, other);
        String call = NAMES[kind] + " with slip " + slip + " at " + place + ", one at " + other;
        int same = caught(kind, Math.abs(other - place), true, slip > 0);
        due.is("15: " + call, x.catches(0, 1), same);
        due.is("14: " + call, x.tangled(1), same);
        x.face(1);
        int back = caught(kind, Math.abs(other - place), false, slip > 0);
        due.is("15: " + call + ", the other way", x.catches(0, 1), back);
        due.is("13: " + call + ", the other way", x.now(2), back);
        x.face(0);
        due.is("15: " + call + ", both back", x.catches(0, 1), same);
        due.is("14: " + call + ", both back", x.tangled(0), 2 * same);
        x.face(1);
        due.is("15: " + call + ", it is back", x.catches(0, 1), back);
        due.is("14: " + call + ", it is back", x.tangled(1), back);
    }

    private static int caught(int kind, int d, boolean same, boolean shirt) {
        boolean[] sameWay = {d == 1, d <= 2, false, d <= 2, d <= 2 && shirt, false};
        boolean[] otherWay = {false, false, false, d == 1, false, d == 1};
        return (same ? sameWay : otherWay)[kind] ? 1 : 0;
    }

    /** A shirt of just as much SLIP as is held stays; with one more it falls; the wanted one's by turning alone. */
    private static void holds() {
        for (int kind = 0; kind < 6; kind++) {
            for (int slip = 0; slip <= 9; slip++) {
                int stays = slip <= HOLDS[kind] ? slip : 0;
                for (int manner = 0; manner < 2; manner++) {
                    HangerRail with = pair(kind, slip);
                    due.is("12: it comes with another one", with.take(1, manner), 3);
                    due.is("12: " + NAMES[kind] + " with slip " + slip + ", manner " + manner, with.of(0, 3), stays);
                    HangerRail wanted = pair(kind, slip);
                    wanted.take(0, manner);
                    due.is("12: wanted " + NAMES[kind] + " with slip " + slip + ", manner " + manner, wanted.of(0, 3), manner == 0 ? slip : stays);
                }
                HangerRail pushed = pair(kind, slip);
                pushed.shift(1, 5);
                due.is("12: it is pushed", pushed.take(0, 2), 1);
                due.is("12: pushed " + NAMES[kind] + " with slip " + slip, pushed.of(0, 3), slip);
            }
        }
    }

    private static HangerRail pair(int kind, int slip) {
        HangerRail x = Due.told("wood at 10;bent at 11");
        x.turn(0, kind);
        x.set(0, 3, slip);
        return x;
    }

    private static void sheetNumbers() {
        for (int bits : new int[] {8, 16, 64}) {
            HangerRail x = new HangerRail();
            for (int n = 0; n <= 40; n++) {
                due.is("32: " + n + " numbers of " + bits + " bits", x.sheet(2, bits, n), n);
                due.is("33: none behind the last of " + n, x.write(2, n, 1), Due.BEYOND);
                if (n > 0) {
                    due.is("33: the last of " + n + " is 0", x.write(2, n - 1, 1), 0);
                    due.is("33: the last of " + n, x.write(2, n - 1, 0), 1);
                    x.write(2, n - 1, 5);
                }
            }
            due.is("32: anew", x.sheet(2, bits, 40), 40);
            for (int i = 0; i < 40; i++) {
                due.is("32: number " + i + " is 0", x.write(2, i, 0), 0);
            }
            for (int n : new int[] {0, 1, 40}) {
                x.sheet(2, bits, 40);
                due.is("32: MISSING, told with " + n, x.sheet(2, 0, n), 0);
                due.is("33: it is MISSING", x.write(2, 0, 1), Due.MISSING);
            }
        }
    }

    private static void numbersWrap() {
        long[] told = {127, 128, 255, 256, 257, -128, -129, -256, 32767, 32768, 65535, 65536, 65537, -32768, -32769, -65536,
            Long.MAX_VALUE, Long.MIN_VALUE, 1L << 32, Due.BEYOND, Due.SIZE};
        long[] in8 = {127, -128, -1, 0, 1, -128, 127, 0, -1, 0, -1, 0, 1, 0, -1, 0, -1, 0, 0, -1, -7};
        long[] in16 = {127, 128, 255, 256, 257, -128, -129, -256, 32767, -32768, -1, 0, 1, -32768, 32767, 0, -1, 0, 0, 13823, 13817};
        HangerRail x = new HangerRail();
        x.sheet(0, 8, 1);
        x.sheet(1, 16, 1);
        x.sheet(2, 64, 1);
        for (int i = 0; i < told.length; i++) {
            x.write(0, 0, told[i]);
            x.write(1, 0, told[i]);
            x.write(2, 0, told[i]);
            due.is("33: " + told[i] + " in 8 bits", x.write(0, 0, 0), in8[i]);
            due.is("33: " + told[i] + " in 16 bits", x.write(1, 0, 0), in16[i]);
            due.is("33: " + told[i] + " in 64 bits", x.write(2, 0, 0), told[i]);
        }
        due.is("42: numbers like findings are none", x.status(-1), 0);
    }

    /** Of a number the n lowest bytes, the highest of these first; what stands above them is left. */
    private static void bytesOfANumber() {
        int[] told = {'5', 0x7f7f7f00 | '5', -256 | '5', 0x80000000 | '5'};
        for (int bytes : told) {
            HangerRail x = new HangerRail();
            Twins.feed(x, "price ");
            due.is("29: the lowest byte of " + bytes, x.feed(bytes, 1), 7);
            due.is("31: price 5", x.rail(), 1);
            due.is("31: PRICE", x.now(5), 5);
        }
        HangerRail two = new HangerRail();
        Twins.feed(two, "price");
        due.is("29: two bytes", two.feed(0xffff0000 | '1' << 8 | '2', 2), 7);
        due.is("31: price12", two.rail(), 1);
        due.is("31: PRICE 12", two.now(5), 12);
        HangerRail three = new HangerRail();
        Twins.feed(three, "price");
        due.is("29: three bytes", three.feed(0xff000000 | ' ' << 16 | '3' << 8 | '4', 3), 8);
        due.is("31: price 34", three.rail(), 1);
        due.is("31: PRICE 34", three.now(5), 34);
        HangerRail four = new HangerRail();
        Twins.feed(four, "wire");
        due.is("29: four bytes, the first above 127", four.feed(0xe1e2e3e4, 4), 8);
        due.is("31: a byte that begins no token", four.rail(), -5);
    }

    private static void tape() {
        HangerRail x = new HangerRail();
        for (int n = 1; n <= 120; n++) {
            due.is("29: byte " + n, x.feed(' ', 1), n);
            due.is("41: bytes", x.count(1), n);
        }
        due.is("29: FULL", x.feed(' ', 1), Due.FULL);
        due.is("30: 120", x.wipe(), 120);
        due.is("30: none", x.wipe(), 0);
        due.is("29: room again", x.feed(0x20202020, 4), 4);
        due.is("31: four blanks", x.rail(), -5);
        due.is("31: empty then", x.count(1), 0);
        due.is("29: after a text", x.feed(0x20202020, 4), 4);
    }
}
