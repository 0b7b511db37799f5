/** Promises 29 to 31: the tape, and the text of a rail. */
public final class TextTest {
    private static final Due due = new Due();

    public static void main(String[] args) {
        feed();
        full();
        wipe();
        rail();
        blanks();
        faults();
        placesAndNumbers();
        thirteenth();
        nothingChanges();
        shorterText();
        due.end();
    }

    private static void feed() {
        HangerRail x = new HangerRail();
        due.is("29: n 0", x.feed(65, 0), Due.BEYOND);
        due.is("29: n 5", x.feed(65, 5), Due.BEYOND);
        due.is("29: n least", x.feed(65, Due.LEAST), Due.BEYOND);
        due.is("29: the highest first", x.feed('w' << 24 | 'i' << 16 | 'r' << 8 | 'e', 4), 4);
        due.is("29: the lowest ones", x.feed('x' << 24 | 'y' << 16 | 'a' << 8 | 't', 2), 6);
        due.is("29: three", x.feed('z' << 24 | ' ' << 16 | '1' << 8 | '9', 3), 9);
        due.is("29: count(1)", x.count(1), 9);
        // "wireat" is one word, and none that is known.
        due.is("31: one word", x.rail(), -1);
        x.feed('w' << 24 | 'i' << 16 | 'r' << 8 | 'e', 4);
        due.is("29: one", x.feed(0x7fffff00 | ' ', 1), 5);
        x.feed('a' << 8 | 't', 2);
        x.feed(' ' << 16 | '1' << 8 | '9', 3);
        due.is("31: told", x.rail(), 1);
        due.is("31: at 19", x.of(0, 1), 19);
    }

    private static void full() {
        HangerRail x = new HangerRail();
        for (int i = 1; i <= 29; i++) {
            due.is("29: by four", x.feed(0x20202020, 4), 4 * i);
        }
        due.is("29: 118", x.feed(0x2020, 2), 118);
        due.is("29: three too many", x.feed(0x202020, 3), Due.FULL);
        due.is("29: BEYOND first", x.feed(0x20, 5), Due.BEYOND);
        due.is("29: nothing came", x.count(1), 118);
        due.is("29: 120", x.feed(0x2020, 2), 120);
        due.is("29: one too many", x.feed(0x20, 1), Due.FULL);
        due.is("31: blanks alone end too early", x.rail(), -121);
        due.is("31: empty then", x.count(1), 0);
    }

    private static void wipe() {
        HangerRail x = new HangerRail();
        x.feed(0, 3);
        due.is("30: three", x.wipe(), 3);
        due.is("30: none", x.wipe(), 0);
        due.is("30: empty", x.count(1), 0);
        due.is("31: a text after it", Due.rail(x, "wire"), 1);
    }

    private static void rail() {
        HangerRail x = new HangerRail();
        due.is("31: all parts", Due.rail(x, "strap at 12 back shirt 9 feel 15;wire;price 7;bar feel 0;bent shirt 1;hanger back;wood at 0"), 7);
        int[][] want = {
            {4, 12, 1, 9, 15}, {1, -1, 0, 0, 0}, {5, -1, 0, 0, 0}, {3, -1, 0, 1, 0}, {0, -1, 1, 0, 0}, {2, 0, 0, 0, 0},
        };
        for (int h = 0; h < 6; h++) {
            for (int what = 0; what < 5; what++) {
                due.is("31: of(" + h + ", " + what + ")", x.of(h, what), want[h][what]);
            }
        }
        due.is("31: price", x.now(5), 7);
        due.is("31: the tape is empty", x.count(1), 0);
        due.is("31: no moves", x.now(0), 0);
        due.is("31: it comes to what there is", Due.rail(x, "wire at 23;price 0"), 2);
        due.is("31: seven", x.count(0), 7);
        due.is("31: free", x.now(5), 0);
        due.is("31: price twice, the later one", Due.rail(x, "price 5;price 99"), 2);
        due.is("31: dear", x.now(5), 99);
        due.is("31: no findings", x.status(-1), 0);
    }

    private static void blanks() {
        HangerRail x = new HangerRail();
        due.is("31: blanks all about", Due.rail(x, "   wire   at   3   back  ;  wood   "), 2);
        due.is("31: no blanks where none is needed", Due.rail(x, "wire at5back;bent shirt3feel2;price9"), 3);
        due.is("31: at 5", x.of(2, 1), 5);
        due.is("31: back", x.of(2, 2), 1);
        due.is("31: shirt 3", x.of(3, 3), 3);
        due.is("31: feel 2", x.of(3, 4), 2);
        due.is("31: other noughts ahead", Due.rail(x, "wire at 0000000000007"), 1);
        due.is("31: at 7", x.of(4, 1), 7);
    }

    private static void faults() {
        fault("", 0);
        fault("   ", 3);
        fault(";", 0);
        fault("wire;", 5);
        fault("wire;  ", 7);
        fault("wire;;wood", 5);
        fault("wire wood", 5);
        fault("wires", 0);
        fault("wirez", 0);
        fault("fire", 0);
        fault("wira", 0);
        fault("wir", 0);
        fault("Wire", 0);
        fault("wirE", 0);
        fault("wireE", 4);
        fault("wire at", 7);
        fault("wire at  ", 9);
        fault("wire at back", 8);
        fault("wire at ;", 8);
        fault("wire 3", 5);
        fault("wire3", 4);
        fault("3", 0);
        fault("at 3", 0);
        fault("wire at 3 at 4", 10);
        fault("wire back at 3", 10);
        fault("wire back back", 10);
        fault("wire shirt 3 back", 13);
        fault("wire feel 3 shirt 3", 12);
        fault("wire shirt", 10);
        fault("wire feel", 9);
        fault("wire price 3", 5);
        fault("price", 5);
        fault("price wire", 6);
        fault("price 3 back", 8);
        fault("price 3 4", 8);
        fault("wire, wood", 4);
        fault("wire\twood", 4);
        fault("wire -", 5);
        fault("wire at -3", 8);
        fault("wire; ?", 6);
        fault("wire " + (char) 0, 5);
        fault("wire " + (char) 255, 5);
        fault((char) (128 + 'w') + "ire", 0);
        fault("wire at 3; wood at 3", 19);
        fault("wire at 3 4", 10);
    }

    private static void placesAndNumbers() {
        good("wire at 23");
        fault("wire at 24", 8);
        fault("wire at 999", 8);
        fault("wire at 1000", 8);
        fault("wire at 4294967296", 8);
        good("wire shirt 1");
        good("wire shirt 9");
        fault("wire shirt 0", 11);
        fault("wire shirt 10", 11);
        good("wire feel 0");
        good("wire feel 15");
        fault("wire feel 16", 10);
        good("price 0");
        good("price 99");
        fault("price 100", 6);
        fault("price 18446744073709551616", 6);
        fault("wire at 10000000000000000000000000000000000000000000000000003", 8);
    }

    private static void thirteenth() {
        HangerRail x = new HangerRail();
        due.is("31: twelve", Due.rail(x, "wire;wire;wire;wire;wire;wire;wire;wire;wire;wire;wire;wire"), 12);
        due.is("31: a 13th", Due.rail(x, "price 8; wire"), -10);
        due.is("31: the price is as it was", x.now(5), 4);
        due.is("31: price alone", Due.rail(x, "price 8"), 1);
        due.is("31: no finding", x.status(-1), 0);
        HangerRail y = new HangerRail();
        due.is("31: thirteen at once", Due.rail(y, "bar;bar;bar;bar;bar;bar;bar;bar;bar;bar;bar;bar;bar"), -49);
        due.is("31: none came", y.count(0), 0);
    }

    private static void nothingChanges() {
        HangerRail x = Due.told("wire at 3 back shirt 4 feel 5");
        due.is("31: a fault at the end", Due.rail(x, "bent at 4 back shirt 3 feel 2; price 50; wood at 3"), -50);
        due.is("31: one hanger", x.count(0), 1);
        due.is("31: place 4 is free", x.at(4), Due.NONE);
        due.is("31: one back", x.count(3), 1);
        due.is("31: slips", x.now(4), 4);
        due.is("31: price", x.now(5), 4);
        due.is("31: the tape is empty", x.count(1), 0);
        due.is("31: the next hanger", x.hanger(2), 1);
        int[] want = {2, -1, 0, 0, 0};
        for (int what = 0; what < 5; what++) {
            due.is("31: of the next hanger " + what, x.of(1, what), want[what]);
        }
        due.is("31: a place that is taken", Due.rail(x, "wire at 3"), -9);
    }

    /** What an earlier text left behind the end of the tape must not be read. */
    private static void shorterText() {
        HangerRail x = new HangerRail();
        Due.rail(x, "wirewirewire;;;;;;;;");
        due.is("31: a shorter one", Due.rail(x, "wire"), 1);
        Due.rail(x, "wire at 1999999;;;;;;");
        due.is("31: a shorter number", Due.rail(x, "wire at 1"), 1);
        Due.feed(x, "wire at 22");
        x.wipe();
        due.is("31: after wiping", Due.rail(x, "wire at 2"), 1);
        due.is("31: at 2", x.at(2), 2);
        HangerRail y = new HangerRail();
        String word = "wire;".repeat(11);
        due.is("31: 120 bytes that end in a word", Due.rail(y, word + " ".repeat(120 - 4 - word.length()) + "wire"), 12);
        HangerRail z = new HangerRail();
        due.is("31: 120 bytes that end in a number", Due.rail(z, "price" + " ".repeat(113) + "23"), 1);
        due.is("31: price 23", z.now(5), 23);
        HangerRail signs = new HangerRail();
        due.is("31: many items", Due.rail(signs, "price 1;".repeat(14) + "price 22"), 15);
        due.is("31: the last price", signs.now(5), 22);
    }

    private static void fault(String text, int place) {
        HangerRail x = new HangerRail();
        due.is("31: " + text, Due.rail(x, text), -1 - place);
        due.is("31: nothing came of " + text, x.count(0), 0);
        due.is("31: no finding of " + text, x.status(-1), 0);
        due.is("31: the tape after " + text, x.count(1), 0);
    }

    private static void good(String text) {
        due.is("31: " + text, Due.rail(new HangerRail(), text), 1);
    }
}
