import java.util.function.Supplier;

/** What each call answers where there is nothing, where there is one alone, and where there is as much as can be. */
public final class NothingAndAllTest {
    private static final Due due = new Due();
    private static final Twins twins = new Twins(due);

    public static void main(String[] args) {
        nothing();
        allOut();
        oneAlone();
        tangledOfOneThatIsOut();
        twelveWires();
        whatFallsOfTwelve();
        twelveWoods();
        savesAtTheMost();
        feelsAtTheMost();
        spotToTheEnds();
        facingOfNoneOneTwo();
        mannersThatAreAsGood();
        laysEdges();
        laysOfAll();
        bookEdges();
        readEdges();
        imagesOfNothingAndAll();
        imageKeepsNoTapeNoSheets();
        manyFindings();
        due.end();
    }

    /** The calls that have no finding, and those that have none where nothing is there. */
    private static void nothing() {
        Supplier<HangerRail> fresh = Twins::fresh;
        twins.asked("13: MOVES of nothing", fresh, x -> x.now(0), 0);
        twins.asked("13: none on the rail", fresh, x -> x.now(1), 0);
        twins.asked("13: no pairs of nothing", fresh, x -> x.now(2), 0);
        twins.asked("18: no heaps of nothing", fresh, x -> x.heaps(), 0);
        twins.asked("23: facing() of nothing", fresh, x -> x.facing(), 0);
        twins.asked("24: nothing falls, lifted", fresh, x -> x.clears(0), 0);
        twins.asked("24: nothing falls, turned", fresh, x -> x.clears(1), 0);
        twins.asked("25: nothing to untangle", fresh, x -> x.untangle(), 0);
        twins.asked("26: nothing is saved", fresh, x -> x.saves(), 0);
        twins.asked("30: nothing to wipe", fresh, x -> x.wipe(), 0);
        twins.asked("31: an empty tape ends too early", fresh, x -> x.rail(), -1);
        twins.asked("40: nothing to tear", fresh, x -> x.tear(), 0);
    }

    private static void allOut() {
        Supplier<HangerRail> out = Twins::out;
        twins.asked("13: none on the rail", out, x -> x.now(1), 0);
        twins.asked("13: no pairs of those OUT", out, x -> x.now(2), 0);
        twins.asked("13: the shirt of one that is OUT", out, x -> x.now(3), 1);
        twins.asked("13: its slip", out, x -> x.now(4), 9);
        twins.asked("13: all places are free", out, x -> x.now(6), 24);
        twins.asked("18: no heaps of those OUT", out, x -> x.heaps(), 0);
        twins.asked("23: facing() of those OUT", out, x -> x.facing(), 0);
        twins.asked("24: none is lifted", out, x -> x.clears(0), 0);
        twins.asked("24: none is turned", out, x -> x.clears(1), 0);
        twins.asked("25: untangle() of those OUT", out, x -> x.untangle(), 0);
        twins.asked("26: saves() of those OUT", out, x -> x.saves(), 0);
        twins.asked("41: none on the rail", out, x -> x.count(2), 0);
        twins.asked("41: one that is OUT faces 1", out, x -> x.count(3), 1);
    }

    private static void oneAlone() {
        for (int place : new int[] {0, 11, 23}) {
            Supplier<HangerRail> one = () -> Due.told("wire at " + place + " shirt 9");
            twins.asked("14: tangled with none", one, x -> x.tangled(0), 0);
            for (int m = 0; m < 3; m++) {
                int manner = m;
                twins.asked("16: it comes itself, by " + manner, one, x -> x.comes(0, manner), 1);
                twins.asked("17: its shirt falls, if turned, by " + manner, one, x -> x.falls(0, manner), manner == 1 ? 1 : 0);
            }
            twins.asked("18: one alone is a heap", one, x -> x.heaps(), 1);
            twins.asked("19: of one", one, x -> x.greatest(), 1);
            twins.asked("20: the least manner", one, x -> x.manner(0), 0);
            twins.asked("21: the first", one, x -> x.first(), 0);
            twins.asked("22: its own place", one, x -> x.spot(0), place);
            twins.asked("23: it needn't face the other way", one, x -> x.facing(), 0);
            twins.asked("24: lifted alone", one, x -> x.clears(0), 0);
            twins.asked("24: turned alone", one, x -> x.clears(1), 1);
            twins.asked("25: nothing to untangle", one, x -> x.untangle(), 0);
            twins.asked("26: nothing saved, nothing lost", one, x -> x.saves(), 0);
            twins.asked("28: the least kind", one, x -> x.kind(0), 0);
        }
    }

    private static void tangledOfOneThatIsOut() {
        Supplier<HangerRail> scene = () -> Due.told("wire;wire;bent at 0;bent at 1;bent at 23");
        for (int h = 0; h < 2; h++) {
            int one = h;
            twins.asked("14: one that is OUT", scene, x -> x.tangled(one), 0);
            for (int o = 0; o < 5; o++) {
                int other = o;
                if (other != one) {
                    twins.asked("15: one that is OUT catches", scene, x -> x.catches(one, other), 0);
                    twins.asked("15: one that is OUT is caught", scene, x -> x.catches(other, one), 0);
                }
            }
        }
    }

    private static HangerRail twelve(int kind, int slip) {
        HangerRail x = new HangerRail();
        for (int h = 0; h < 12; h++) {
            x.hanger(kind);
            x.hang(h, h);
            x.set(h, 3, slip);
        }
        return x;
    }

    private static void twelveWires() {
        Supplier<HangerRail> scene = () -> twelve(1, 9);
        twins.asked("13: twelve on the rail", scene, x -> x.now(1), 4095);
        twins.asked("13: 11 pairs one place off, 10 two places off", scene, x -> x.now(2), 21);
        twins.asked("13: twelve shirts", scene, x -> x.now(3), 12);
        twins.asked("13: their slips", scene, x -> x.now(4), 108);
        twins.asked("14: the first", scene, x -> x.tangled(0), Due.set(1, 2));
        twins.asked("14: the last", scene, x -> x.tangled(11), Due.set(9, 10));
        twins.asked("14: one in the middle", scene, x -> x.tangled(5), Due.set(3, 4, 6, 7));
        for (int h = 0; h < 12; h++) {
            int one = h;
            twins.asked("16: all come, lifted with " + h, scene, x -> x.comes(one, 0), 4095);
        }
        twins.asked("18: one heap", scene, x -> x.heaps(), 1);
        twins.asked("19: of twelve", scene, x -> x.greatest(), 12);
        twins.asked("23: two that are caught by four each", scene, x -> x.facing(), Due.set(2, 5));
        twins.asked("25: all but each third", scene, x -> x.untangle(), 4095 - Due.set(2, 5, 8, 11));
        HangerRail taken = twelve(1, 9);
        due.is("12: all come", taken.take(6, 0), 4095);
        due.is("12: one shirt is left", taken.now(3), 1);
        due.is("12: the wanted one's", taken.of(6, 3), 9);
        due.is("12: the rail is empty", taken.now(6), 24);
    }

    private static void whatFallsOfTwelve() {
        Supplier<HangerRail> scene = () -> twelve(1, 9);
        for (int h = 0; h < 12; h++) {
            int one = h;
            int near = Math.min(h, 2) + Math.min(11 - h, 2);
            twins.asked("17: lifted, all but the wanted one's, " + h, scene, x -> x.falls(one, 0), 11);
            twins.asked("17: turned, with the wanted one's, " + h, scene, x -> x.falls(one, 1), near + 1);
        }
        twins.asked("17: pushed at the right end", scene, x -> x.falls(11, 2), 0);
        twins.asked("21: all as good, the least", scene, x -> x.first(), 0);
        twins.asked("24: all but one fall, lifted", scene, x -> x.clears(0), 11);
        twins.asked("24: all fall, turned", scene, x -> x.clears(1), 12);
    }

    private static void twelveWoods() {
        Supplier<HangerRail> scene = () -> twelve(2, 9);
        twins.asked("13: no pairs", scene, x -> x.now(2), 0);
        twins.asked("18: twelve heaps", scene, x -> x.heaps(), 12);
        twins.asked("19: of one", scene, x -> x.greatest(), 1);
        twins.asked("23: none had best face the other way", scene, x -> x.facing(), 0);
        twins.asked("24: none falls, lifted", scene, x -> x.clears(0), 0);
        twins.asked("24: all fall, turned", scene, x -> x.clears(1), 12);
        twins.asked("25: none must be taken away", scene, x -> x.untangle(), 0);
        twins.asked("26: nothing saved", scene, x -> x.saves(), 0);
    }

    private static void savesAtTheMost() {
        int[] prices = {0, 1, 4, 99};
        int[] want = {-16, -4, 32, 1172};
        for (int i = 0; i < 4; i++) {
            int price = prices[i];
            Supplier<HangerRail> scene = () -> {
                HangerRail x = twelve(1, 0);
                x.price(price);
                return x;
            };
            twins.asked("26: twelve tangled, eight away, at " + price, scene, x -> x.saves(), want[i]);
        }
        Supplier<HangerRail> even = () -> Due.told("hanger at 3;hanger at 4;price 1");
        twins.asked("26: neither saved nor lost", even, x -> x.saves(), 0);
    }

    private static void feelsAtTheMost() {
        Supplier<HangerRail> scene = () -> {
            HangerRail x = twelve(2, 0);
            for (int h = 0; h < 12; h++) {
                x.set(h, 4, 15);
            }
            return x;
        };
        for (int f = 0; f < 16; f++) {
            int feel = f;
            twins.asked("27: all alike for " + feel, scene, x -> x.feels(feel), 4095);
        }
        // Hanger h feels 2^h - 1, so it is unlike 0 in h bits; the last one is OUT.
        Supplier<HangerRail> steps = () -> Due.told("wood at 3 feel 15;wood at 4 feel 7;wood at 5 feel 3;wood at 6 feel 1;wood feel 0");
        twins.asked("27: unlike in one bit", steps, x -> x.feels(0), Due.set(3));
        twins.asked("27: as told", steps, x -> x.feels(15), Due.set(0));
        twins.asked("27: unlike in one bit on both sides", steps, x -> x.feels(5), Due.set(1, 3));
        Supplier<HangerRail> far = () -> Due.told("wood at 0 feel 10;wood feel 5");
        twins.asked("27: unlike in all four bits, but alone on the rail", far, x -> x.feels(5), Due.set(0));
    }

    private static void spotToTheEnds() {
        Supplier<HangerRail> right = () -> Due.told("wire at 22;wire at 20;wire at 0;wire at 1;wire at 4;wire at 7;wire at 10;wire at 13;wire at 16;wire at 17");
        twins.asked("22: the right end", right, x -> x.spot(0), 23);
        Supplier<HangerRail> left = () -> Due.told("wire at 1;wire at 3;wire at 6;wire at 7");
        twins.asked("22: the left end", left, x -> x.spot(0), 0);
        Supplier<HangerRail> both = () -> Due.told("wood at 12;wire at 10;wire at 14");
        twins.asked("22: of two that are as near, the least", both, x -> x.spot(0), 7);
        Supplier<HangerRail> far = () -> Due.told("wire at 0;wire at 2;wire at 5;wire at 7;wire at 10;wire at 13;wire at 16;wire at 18;wire at 20");
        twins.asked("22: over the whole rail", far, x -> x.spot(0), 23);
        Supplier<HangerRail> back = () -> Due.told("wire at 23;wire at 21;wire at 18;wire at 15;wire at 12;wire at 9;wire at 6;wire at 3");
        twins.asked("22: over the whole rail to the left", back, x -> x.spot(0), 0);
    }

    private static void facingOfNoneOneTwo() {
        Supplier<HangerRail> none = () -> Due.told("bent at 3;bent at 4");
        twins.asked("23: a pair that is tangled either way", none, x -> x.facing(), 0);
        Supplier<HangerRail> one = () -> Due.told("wood;hanger at 3;hanger at 4");
        twins.asked("23: the lesser of a pair", one, x -> x.facing(), Due.set(1));
        Supplier<HangerRail> middle = () -> Due.told("hanger at 3;hanger at 5;hanger at 4");
        twins.asked("23: one is fewer than two", middle, x -> x.facing(), Due.set(2));
        Supplier<HangerRail> two = () -> Due.told("hanger at 3;hanger at 4;hanger at 13;hanger at 14");
        twins.asked("23: the least two", two, x -> x.facing(), Due.set(0, 2));
        Supplier<HangerRail> three = () -> Due.told("hanger at 3;hanger at 4;hanger at 13;hanger at 14;hanger at 20;hanger at 21");
        twins.asked("23: never three", three, x -> x.facing(), Due.set(0, 2));
        Supplier<HangerRail> first = () -> Due.told("hanger at 1;hanger at 11;wood at 0;wood at 2;wood at 10;wood at 12");
        twins.asked("23: the first two", first, x -> x.facing(), Due.set(0, 1));
        Supplier<HangerRail> last = () -> twelveWithTheLastTwo();
        twins.asked("23: the greatest two", last, x -> x.facing(), Due.set(10, 11));
    }

    /** Ten woods that no one catches; 10 and 11 are each between two hangers of their own way. */
    private static HangerRail twelveWithTheLastTwo() {
        HangerRail x = new HangerRail();
        int[] places = {0, 4, 9, 11, 15, 17, 21, 22, 23, 2, 10, 16};
        for (int h = 0; h < 12; h++) {
            x.hanger(h >= 10 ? 0 : 2);
            x.hang(h, places[h]);
        }
        return x;
    }

    private static void mannersThatAreAsGood() {
        Supplier<HangerRail> pair = () -> Due.told("hanger at 0;hanger at 1;hanger at 2");
        twins.asked("20: no room on either side: turned or lifted bring as many, the least", pair, x -> x.manner(1), 0);
        twins.asked("20: no room at the left end, turned brings fewer", pair, x -> x.manner(0), 1);
        twins.asked("20: room, pushed brings none else", pair, x -> x.manner(2), 2);
        Supplier<HangerRail> alone = () -> Due.told("wood at 0 shirt 9");
        twins.asked("20: alone without room", alone, x -> x.manner(0), 0);
    }

    private static void laysEdges() {
        HangerRail x = Due.told("wire;wire;wire;wire;wire;wire at 9");
        Twins.row(x, 0, 64, 0, 23, 24, -1, 0, 5);
        due.is("35: 0 and 23 are places, 24 and -1 aren't, 0 is taken then, 5 isn't OUT", x.lays(0), 2);
        due.is("35: at 0", x.at(0), 0);
        due.is("35: at 23", x.at(23), 1);
        due.is("35: 2 is OUT", x.of(2, 1), -1);
        due.is("35: 3 is OUT", x.of(3, 1), -1);
        due.is("35: 4 is OUT", x.of(4, 1), -1);
        due.is("35: 5 is where it was", x.of(5, 1), 9);
        due.is("35: MOVES", x.now(0), 2);
        Twins.row(x, 1, 64, 0, 0, 1L << 32, Long.MIN_VALUE, Long.MAX_VALUE);
        due.is("35: far beyond, such as a narrowing would let in", x.lays(1), 0);
        Twins.row(x, 2, 8, 0, 0, 256 + 7, 128, 255);
        due.is("35: the lowest 8 bits of 263 are a place", x.lays(2), 1);
        due.is("35: at 7", x.at(7), 2);
        x.sheet(3, 16, 0);
        due.is("35: no numbers", x.lays(3), 0);
        due.is("35: MOVES then", x.now(0), 3);
        due.is("42: no findings", x.status(-1), 0);
    }

    private static void laysOfAll() {
        HangerRail x = new HangerRail();
        x.sheet(0, 8, 40);
        for (int i = 0; i < 40; i++) {
            x.write(0, i, (i + 12) % 24);
        }
        due.is("35: no hangers", x.lays(0), 0);
        for (int h = 0; h < 12; h++) {
            x.hanger(2);
        }
        due.is("35: twelve", x.lays(0), 12);
        for (int h = 0; h < 12; h++) {
            due.is("35: hanger " + h, x.of(h, 1), h + 12);
        }
        due.is("35: MOVES", x.now(0), 12);
        due.is("35: none is OUT any more", x.lays(0), 0);
        x.take(0, 0);
        x.sheet(1, 8, 1);
        due.is("35: one number for one hanger", x.lays(1), 1);
        due.is("35: at 0", x.at(0), 0);
    }

    private static void bookEdges() {
        HangerRail x = twelve(2, 0);
        for (int n : new int[] {0, 1, 11, 12, 13, 40}) {
            x.sheet(0, 8, n);
            due.is("36: twelve, in a sheet of " + n, x.book(0), 12);
            for (int i = 0; i < n; i++) {
                due.is("36: number " + i + " of " + n, x.write(0, i, 0), i < 12 ? i : -1);
            }
        }
        HangerRail none = Due.told("wire");
        Twins.row(none, 0, 16, 5, 6, 7);
        due.is("36: nothing is on the rail", none.book(0), 0);
        for (int i = 0; i < 3; i++) {
            due.is("36: -1 for none, " + i, none.write(0, i, 0), -1);
        }
        HangerRail ends = Due.told("wire at 23;wire at 0");
        Twins.row(ends, 0, 64, 5, 6, 7);
        due.is("36: the ends", ends.book(0), 2);
        due.is("36: the left end first", ends.write(0, 0, 0), 1);
        due.is("36: the right end", ends.write(0, 1, 0), 0);
        due.is("36: none is left", ends.write(0, 2, 0), -1);
    }

    private static void readEdges() {
        HangerRail x = twelve(2, 9);
        for (int n : new int[] {0, 1, 11, 12}) {
            x.sheet(0, 8, n);
            x.book(0);
            due.is("37: all come alone, " + n, x.read(0), 0);
        }
        x.sheet(0, 8, 40);
        x.book(0);
        due.is("37: a 13th is none", x.read(0), 13);
        for (int i = 12; i < 40; i++) {
            x.write(0, i, 11);
        }
        due.is("37: the last one again", x.read(0), 13);
        long[] none = {-1, 12, 13, 128, 255, 256, -256, Long.MIN_VALUE, Long.MAX_VALUE, 1L << 32, (1L << 32) + 1};
        x.sheet(1, 64, 2);
        x.write(1, 0, 3);
        for (long h : none) {
            x.write(1, 1, h);
            due.is("37: no such hanger, " + h, x.read(1), 2);
        }
        due.is("37: nothing changes", x.now(1), 4095);
        due.is("37: no shirt falls", x.now(4), 108);
        due.is("37: MOVES", x.now(0), 12);
        HangerRail out = Twins.out();
        due.is("37: one that is OUT", out.read(0), 1);
        HangerRail chain = Due.told("wire at 2;wood at 3;wood at 8");
        Twins.row(chain, 0, 8, 2, 0, 1);
        due.is("37: the second is tangled", chain.read(0), 2);
        Twins.row(chain, 0, 8, 0);
        due.is("37: the first is tangled", chain.read(0), 1);
        chain.face(1);
        Twins.row(chain, 0, 8, 2, 0, 1, 2);
        due.is("37: the fourth is OUT then", chain.read(0), 4);
        due.is("42: no findings", chain.status(-1), 0);
    }

    private static void imagesOfNothingAndAll() {
        HangerRail x = new HangerRail();
        due.is("38: of nothing", x.image(), 1);
        Twins.tell(x, "wire at 0 back shirt 9 feel 15;bar at 1 back shirt 9 feel 15;price 99");
        x.face(0);
        due.is("39: no hangers", x.undo(), 0);
        due.is("39: no hangers are there", x.count(0), 0);
        due.is("39: all places are free", x.now(6), 24);
        due.is("39: nothing faces 1", x.count(3), 0);
        due.is("39: MOVES", x.now(0), 0);
        due.is("39: PRICE", x.now(5), 4);
        due.is("2: a new one", x.hanger(3), 0);
        int[] want = {3, -1, 0, 0, 0, 2, 2};
        for (int what = 0; what < 7; what++) {
            due.is("2: it is new, " + what, x.of(0, what), want[what]);
        }
        due.is("9: its place is free", x.hang(0, 0), 1);
        for (int h = 1; h < 12; h++) {
            x.hanger(2);
        }
        due.is("38: of twelve", x.image(), 1);
        x.take(0, 0);
        due.is("39: the latest", x.undo(), 12);
        due.is("39: it hangs again", x.at(0), 0);
        due.is("39: it stays kept", x.undo(), 12);
        due.is("40: something was", x.tear(), 1);
        due.is("40: nothing any more", x.tear(), 0);
        due.is("39: NONE", x.undo(), Due.NONE);
        due.is("39: twelve all the same", x.count(0), 12);
        due.is("38: again", x.image(), 1);
        due.is("39: again", x.undo(), 12);
    }

    private static void imageKeepsNoTapeNoSheets() {
        HangerRail x = Twins.some();
        due.is("38: kept", x.image(), 1);
        due.is("41: the tape is as it was", x.count(1), 18);
        x.wipe();
        x.sheet(0, 0, 0);
        x.write(1, 0, 99);
        x.sheet(3, 8, 1);
        int findings = x.status(-1);
        x.at(99);
        x.undo();
        due.is("39: the tape doesn't come back", x.count(1), 0);
        due.is("39: nor a sheet", x.write(0, 0, 0), Due.MISSING);
        due.is("39: nor a number", x.write(1, 0, 0), 99);
        due.is("39: a new sheet stays", x.write(3, 0, 0), 0);
        due.is("42: undo() takes no finding back", x.status(-1), findings + 2);
    }

    private static void manyFindings() {
        HangerRail x = new HangerRail();
        for (int i = 0; i < 500; i++) {
            x.at(i);
        }
        due.is("42: NONE for each place", x.status(3), 24);
        due.is("42: BEYOND for all else", x.status(0), 476);
        due.is("42: all", x.status(-1), 500);
        due.is("42: another one", x.status(7), Due.BEYOND);
        due.is("42: counted from then on", x.status(0), 477);
        due.is("42: among all", x.status(-1), 501);
    }
}
