/** Promises 20 to 28: what is best. */
public final class BestTest {
    private static final Due due = new Due();

    public static void main(String[] args) {
        manner();
        first();
        spot();
        facing();
        clears();
        untangle();
        saves();
        feels();
        kind();
        due.end();
    }

    private static void manner() {
        HangerRail x = Due.told("wire at 2 shirt 4; wire at 3 shirt 4; wire at 4 shirt 4; wire; wood at 20 shirt 9; wood at 9");
        due.is("20: pushed lets none fall", x.manner(0), 2);
        due.is("20: no room, lifted keeps its own", x.manner(1), 0);
        due.is("20: alone, the least", x.manner(5), 0);
        due.is("20: OUT", x.manner(3), Due.STATE);
        due.is("20: hanger 6", x.manner(6), Due.BEYOND);
        due.is("20: hanger -1", x.manner(-1), Due.BEYOND);
        HangerRail y = Due.told("bent at 2 shirt 2; wire at 3; wire at 5; hanger at 7 shirt 9");
        due.is("20: bent needs two free, turned lets none fall", y.manner(0), 1);
        y.turn(0, 1);
        y.set(0, 3, 3);
        due.is("20: turned lets none fall, but pushed it comes alone", y.manner(0), 2);
        y.turn(0, 2);
        due.is("20: needs two free, turned brings fewer", y.manner(0), 1);
        y.set(0, 3, 9);
        due.is("20: turned lets its own fall, as many as lifted, but fewer come", y.manner(0), 1);
        y.set(3, 3, 0);
        due.is("20: lifted lets none fall", y.manner(0), 0);
    }

    private static void first() {
        HangerRail x = new HangerRail();
        due.is("21: nothing", x.first(), Due.NONE);
        x.hanger(1);
        due.is("21: nothing is on the rail", x.first(), Due.NONE);
        Due.rail(x, "wire at 2 shirt 4; wire at 3; wire at 4 shirt 4; hanger at 10; wood at 20 shirt 9");
        due.is("21: one that lets none fall", x.first(), 4);
        due.is("21: taken", x.take(4, 0), Due.set(4));
        due.is("21: the next one", x.first(), 5);
        due.is("21: taken, too", x.take(5, 0), Due.set(5));
        due.is("21: its own shirt stays", x.first(), 1);
        due.is("21: the first of all", Due.told("wood at 3; wood at 9").first(), 0);
        x.set(1, 3, 0);
        due.is("21: of those that keep most", x.first(), 3);
    }

    private static void spot() {
        HangerRail x = Due.told("wire at 10; wire at 11; wood");
        due.is("22: the least of the nearest", x.spot(1), 13);
        due.is("22: to the left", x.spot(0), 8);
        due.is("22: OUT", x.spot(2), Due.STATE);
        due.is("22: hanger 3", x.spot(3), Due.BEYOND);
        due.is("22: hanger -1", x.spot(-1), Due.BEYOND);
        x.face(0);
        due.is("22: its own", x.spot(0), 10);
        HangerRail y = Due.told("hanger at 10; hanger at 9; hanger at 11");
        due.is("22: as near on both sides", y.spot(0), 7);
        due.is("22: nothing changes", y.of(0, 1), 10);
        // Every free place is next to one that catches.
        HangerRail z = new HangerRail();
        for (int h = 0; h < 12; h++) {
            z.hanger(1);
            z.hang(h, 2 * h);
        }
        due.is("22: nowhere", z.spot(5), Due.NONE);
        z.face(5);
        due.is("22: its own is good then", z.spot(5), 10);
        HangerRail end = Due.told("wire at 0; wire at 1");
        due.is("22: from the left end", end.spot(0), 4);
        due.is("22: to the right", end.spot(1), 3);
    }

    private static void facing() {
        HangerRail x = new HangerRail();
        due.is("23: nothing", x.facing(), 0);
        Due.rail(x, "hanger at 0; hanger at 5");
        due.is("23: none is tangled", x.facing(), 0);
        Due.rail(x, "hanger at 6");
        due.is("23: the least of a pair", x.facing(), Due.set(1));
        Due.rail(x, "hanger at 7");
        due.is("23: the middle one of three", x.facing(), Due.set(2));
        Due.rail(x, "hanger at 8");
        due.is("23: two of four, the least set", x.facing(), Due.set(1, 3));
        due.is("23: nothing changes", x.count(3), 0);
        HangerRail y = Due.told("bar at 3; hanger at 4; wire");
        due.is("23: tangled either way", y.facing(), 0);
        HangerRail z = Due.told("wire at 4; wire at 5; wire at 6");
        due.is("23: one pair is left with each of them", z.facing(), Due.set(0));
        HangerRail backs = Due.told("hanger at 3 back; hanger at 4 back; hanger at 5 back");
        due.is("23: from back to front", backs.facing(), Due.set(1));
        HangerRail bars = Due.told("bar at 3; wood at 4 back; bar at 9 back; wood at 10");
        due.is("23: bars had best face as the other one", bars.facing(), Due.set(0, 2));
        HangerRail six = Due.told("hanger at 0; hanger at 1; hanger at 10; hanger at 11; hanger at 20; hanger at 21");
        due.is("23: two at most", six.facing(), Due.set(0, 2));
    }

    private static void clears() {
        HangerRail x = new HangerRail();
        due.is("24: nothing, lifted", x.clears(0), 0);
        due.is("24: nothing, turned", x.clears(1), 0);
        Due.rail(x, "wire at 2 shirt 4; wire at 4 shirt 4; wire at 6 shirt 4; wire at 20 shirt 4; wire shirt 9");
        due.is("24: lifted, two keep theirs", x.clears(0), 2);
        due.is("24: turned, all fall", x.clears(1), 4);
        due.is("24: one alone, turned", Due.told("wire at 2 shirt 4").clears(1), 1);
        due.is("24: one alone, lifted", Due.told("wire at 2 shirt 4").clears(0), 0);
        // Turned, 0 comes with 1 alone, then 2 with 3; the shirts of all but the second fall.
        HangerRail y = Due.told("wire at 2 shirt 4; wire at 4 shirt 3; wire at 6 shirt 4; wire at 8 shirt 4");
        due.is("24: turned in pairs", y.clears(1), 3);
        due.is("24: pushed isn't asked", x.clears(2), Due.BEYOND);
        due.is("24: manner -1", x.clears(-1), Due.BEYOND);
        due.is("24: nothing changes", x.now(4), 25);
        due.is("24: nobody came", x.now(1), Due.set(0, 1, 2, 3));
        due.is("24: no moves", x.now(0), 0);
    }

    private static void untangle() {
        HangerRail x = new HangerRail();
        due.is("25: nothing", x.untangle(), 0);
        Due.rail(x, "hanger at 5; hanger at 6");
        due.is("25: the least of a pair", x.untangle(), Due.set(0));
        Due.rail(x, "hanger at 7");
        due.is("25: the middle one", x.untangle(), Due.set(1));
        Due.rail(x, "hanger at 8; hanger; wood at 20");
        due.is("25: two of four, the least", x.untangle(), Due.set(0, 2));
        HangerRail y = Due.told("wire at 0; wire at 1; wire at 2");
        due.is("25: two of three", y.untangle(), Due.set(0, 1));
        HangerRail star = Due.told("wood at 3; wood at 4; wood at 6; wood at 7; wire at 5");
        due.is("25: the one that catches all", star.untangle(), Due.set(4));
        due.is("25: nothing changes", star.now(1), 31);
    }

    private static void saves() {
        HangerRail x = new HangerRail();
        due.is("26: nothing", x.saves(), 0);
        Due.rail(x, "hanger at 5; hanger at 6; hanger at 7; hanger at 15");
        due.is("26: three at fourpence, one away", x.saves(), 10);
        x.price(0);
        due.is("26: lost", x.saves(), -2);
        x.price(99);
        due.is("26: dear ones", x.saves(), 295);
        due.is("26: a pair", Due.told("hanger at 5; hanger at 6").saves(), 6);
        x.face(1);
        due.is("26: none is tangled", x.saves(), 0);
    }

    private static void feels() {
        HangerRail x = new HangerRail();
        due.is("27: nothing", x.feels(0), Due.NONE);
        due.is("27: BEYOND first", x.feels(16), Due.BEYOND);
        Due.rail(x, "wire feel 5");
        due.is("27: nothing is on the rail", x.feels(5), Due.NONE);
        Due.rail(x, "wire at 0 feel 12; wood at 1 feel 15; bar at 2; wire at 3 feel 12");
        due.is("27: as told", x.feels(12), Due.set(1, 4));
        due.is("27: one bit off", x.feels(7), Due.set(2));
        due.is("27: one bit off, of two", x.feels(8), Due.set(1, 3, 4));
        due.is("27: one bit off, of three", x.feels(13), Due.set(1, 2, 4));
        due.is("27: not the one that is OUT", x.feels(5), Due.set(1, 2, 3, 4));
        due.is("27: -1", x.feels(-1), Due.BEYOND);
        due.is("27: 0", x.feels(0), Due.set(3));
        HangerRail far = Due.told("wire at 0 feel 15");
        due.is("27: like in none", far.feels(0), Due.set(0));
        due.is("27: 15", far.feels(15), Due.set(0));
    }

    private static void kind() {
        HangerRail x = Due.told("bent at 4; wood at 5; wood at 6; wire; hanger at 20");
        due.is("28: as wood", x.kind(0), 2);
        due.is("28: alone, the least", x.kind(4), 0);
        due.is("28: OUT", x.kind(3), Due.STATE);
        due.is("28: hanger 5", x.kind(5), Due.BEYOND);
        due.is("28: hanger -1", x.kind(-1), Due.BEYOND);
        x.face(0);
        due.is("28: the other way, as hanger", x.kind(0), 0);
        due.is("28: nothing changes", x.of(0, 0), 3);
        HangerRail y = Due.told("bent at 4; wire at 5");
        due.is("28: caught as any", y.kind(0), 0);
        // As a wood one it is caught by nobody; as a strap without a shirt neither, but that isn't the least.
        HangerRail z = Due.told("wire at 4; wood at 6");
        due.is("28: as hanger it reaches not so far", z.kind(0), 0);
    }
}
