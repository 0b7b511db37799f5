import java.util.List;
import java.util.function.Supplier;

/** Promise 31: where a text is cut off, which tokens may stand where, which bytes begin one, and which numbers may be. */
public final class FaultsTest {
    private static final Due due = new Due();
    private static final Twins twins = new Twins(due);
    private static final List<String> KINDS = List.of("hanger", "wire", "wood", "bent", "strap", "bar");
    private static final String END = "";

    public static void main(String[] args) {
        cutOff();
        whatMayStandWhere();
        eachByteAlone();
        eachByteBehindAWord();
        eachByteBehindANumber();
        numbers();
        longNumbers();
        longWords();
        placesThatAreTaken();
        thirteenth();
        theFirstFault();
        faultsChangeNothing();
        mostItems();
        fullTape();
        due.end();
    }

    /** The answers to the first 0, 1, 2, .. bytes of a text. */
    private static void cutOff() {
        String text = "wire at 3 back shirt 4 feel 5;price 6";
        int[] want = {-1, -1, -1, -1, 1, 1, -6, -8, -9, 1, 1, -11, -11, -11, 1, 1, -16, -16, -16, -16, -21, -22, 1, 1,
            -24, -24, -24, -28, -29, 1, -31, -31, -31, -31, -31, -36, -37, 2};
        for (int n = 0; n <= text.length(); n++) {
            answers(text.substring(0, n), want[n]);
        }
    }

    private static void whatMayStandWhere() {
        String[] tokens = {"hanger", "wire", "wood", "bent", "strap", "bar", "price", "at", "back", "shirt", "feel", "5", ";", "coat", "?", END};
        String kinds = " hanger wire wood bent strap bar price ";
        mayStand("", kinds, tokens);
        mayStand("wire", " at back shirt feel ;  ", tokens);
        mayStand("wire at", " 5 ", tokens);
        mayStand("wire at 3", " back shirt feel ;  ", tokens);
        mayStand("wire back", " shirt feel ;  ", tokens);
        mayStand("wire at 3 back", " shirt feel ;  ", tokens);
        mayStand("wire shirt", " 5 ", tokens);
        mayStand("wire shirt 3", " feel ;  ", tokens);
        mayStand("wire back shirt 3", " feel ;  ", tokens);
        mayStand("wire feel", " 5 ", tokens);
        mayStand("wire feel 3", " ;  ", tokens);
        mayStand("wire at 3 back shirt 3 feel 3", " ;  ", tokens);
        mayStand("price", " 5 ", tokens);
        mayStand("price 3", " ;  ", tokens);
        mayStand("wire ;", kinds, tokens);
        mayStand("price 3 ;", kinds, tokens);
    }

    /** One that may stand there is followed by what it needs, and the text is good; any other is the fault itself. */
    private static void mayStand(String before, String may, String[] tokens) {
        for (String token : tokens) {
            String text = before + " " + token;
            int place = before.length() + 1;
            // Two blanks in a row stand for the end.
            boolean good = token.isEmpty() ? may.contains("  ") : may.contains(" " + token + " ");
            int items = before.endsWith(";") ? 2 : 1;
            if (!good) {
                answers(text, -1 - place);
            } else if (token.equals("at") || token.equals("shirt") || token.equals("feel") || token.equals("price")) {
                answers(text + " 5", items);
            } else {
                answers(token.equals(";") ? text + " wood" : text, token.equals(";") ? items + 1 : items);
            }
        }
    }

    private static void eachByteAlone() {
        for (int b = 0; b < 256; b++) {
            answers("" + (char) b, b == ' ' ? -2 : -1);
        }
    }

    private static void eachByteBehindAWord() {
        for (int b = 0; b < 256; b++) {
            boolean letter = b >= 'a' && b <= 'z';
            int want = b == ' ' ? 1 : b == ';' ? -6 : letter ? -1 : -5;
            answers("wire" + (char) b, want);
        }
    }

    private static void eachByteBehindANumber() {
        for (int b = 0; b < 256; b++) {
            boolean digit = b >= '0' && b <= '9';
            int want = b == ' ' || digit ? 1 : b == ';' ? -9 : -8;
            answers("price 2" + (char) b, want);
        }
    }

    private static void numbers() {
        for (int n = 0; n <= 1100; n++) {
            answers("wire at " + n, n <= 23 ? 1 : -9);
            answers("wire shirt " + n, n >= 1 && n <= 9 ? 1 : -12);
            answers("wire feel " + n, n <= 15 ? 1 : -11);
            answers("price " + n, n <= 99 ? 1 : -7);
        }
        HangerRail x = Due.told("wire at 0 shirt 1 feel 0;wire at 23 shirt 9 feel 15");
        int[][] want = {{1, 0, 0, 1, 0}, {1, 23, 0, 9, 15}};
        for (int h = 0; h < 2; h++) {
            for (int what = 0; what < 5; what++) {
                due.is("31: of(" + h + ", " + what + ")", x.of(h, what), want[h][what]);
            }
        }
    }

    /** Numbers that would be small again if they wrapped. */
    private static void longNumbers() {
        String[] wrapping = {"256", "261", "65536", "65541", "1000", "1005", "9999", "4294967296", "4294967301", "18446744073709551616",
            "18446744073709551621", "340282366920938463463374607431768211461", "1" + "0".repeat(100)};
        for (String n : wrapping) {
            answers("wire at " + n, -9);
            answers("wire shirt " + n, -12);
            answers("wire feel " + n, -11);
            answers("price " + n, -7);
        }
        HangerRail x = new HangerRail();
        due.is("31: noughts ahead", Due.rail(x, "price " + "0".repeat(112) + "42"), 1);
        due.is("31: PRICE", x.now(5), 42);
        due.is("31: noughts alone", Due.rail(x, "price " + "0".repeat(114)), 1);
        due.is("31: PRICE 0", x.now(5), 0);
    }

    /** A token is as long as can be: a name and more letters is another word. */
    private static void longWords() {
        for (String kind : KINDS) {
            answers(kind, 1);
            answers(kind + "s", -1);
            answers("a" + kind, -1);
            answers(kind + kind, -1);
            answers(kind.substring(1), -1);
            answers(kind.substring(0, kind.length() - 1), -1);
            answers(kind.toUpperCase(java.util.Locale.ROOT), -1);
            answers(kind + "at 3", -1);
            answers(kind + " att 3", -2 - kind.length());
            answers(kind + " a", -2 - kind.length());
            answers(kind + " backs", -2 - kind.length());
            answers(kind + " shirts 3", -2 - kind.length());
            answers(kind + " feels 3", -2 - kind.length());
        }
        answers("prices 3", -1);
        answers("pric 3", -1);
        answers("z".repeat(120), -1);
        answers("a".repeat(120), -1);
        answers(" ".repeat(116) + "wire", 1);
        answers(" ".repeat(115) + "wires", -116);
    }

    private static void placesThatAreTaken() {
        answers("wire at 3;wire at 3", -19);
        answers("wire at 0;wire at 23;wire at 0", -30);
        answers("wire at 3;wire at 4", 2);
        HangerRail x = Due.told("wire;wire at 9");
        due.is("31: taken on the rail", Due.rail(x, "bar at 9"), -8);
        x.hang(0, 7);
        due.is("31: taken by one that was hung", Due.rail(x, "bar at 7"), -8);
        x.shift(1, 1);
        due.is("31: taken by one that was moved", Due.rail(x, "bar at 10"), -8);
        due.is("31: free again", Due.rail(x, "bar at 9"), 1);
        x.take(0, 0);
        due.is("31: free after one was taken", Due.rail(x, "bar at 7"), 1);
    }

    private static void thirteenth() {
        for (int there = 0; there <= 12; there++) {
            for (String kind : KINDS) {
                HangerRail x = new HangerRail();
                for (int h = 0; h < there; h++) {
                    x.hanger(0);
                }
                String room = "bar;".repeat(12 - there);
                due.is("31: twelve, and one more with " + there + " there", Due.rail(x, room + kind), -1 - room.length());
                due.is("31: none came", x.count(0), there);
                due.is("31: no finding", x.status(-1), 0);
                due.is("31: the price behind twelve", Due.rail(x, room + "price 3"), 13 - there);
                due.is("31: twelve", x.count(0), 12);
            }
        }
    }

    /** Where there are several faults, the first one is told, whatever is wrong with it. */
    private static void theFirstFault() {
        answers("wire at 99;;?", -9);
        answers("wire ? at 99", -6);
        answers("price 100 ?", -7);
        answers("wire;wire at;wire at 3;wire at 3", -13);
        HangerRail x = Due.told("bar;bar;bar;bar;bar;bar;bar;bar;bar;bar;bar;bar");
        due.is("31: a 13th ahead of a wrong place", Due.rail(x, "wire at 99"), -1);
        due.is("31: a wrong price ahead of a 13th", Due.rail(x, "price 100;wire"), -7);
        due.is("31: a 13th ahead of another word", Due.rail(x, "price 1;wire;coat"), -9);
        due.is("31: another word ahead of a 13th", Due.rail(x, "coat;wire"), -1);
    }

    /** With a fault nothing changes but that the tape is empty: as if it had been wiped. */
    private static void faultsChangeNothing() {
        String[] faulty = {"?", "wire at 9 back shirt 9 feel 9;", "price 50;bent at 10;bar at 10", "bar at 15 back shirt 3 feel",
            "price 1;price 2;price 100", "strap at 8 shirt 0"};
        for (String text : faulty) {
            changesNothing(text, Twins::fresh);
            changesNothing(text, Twins::out);
            changesNothing(text, Twins::some);
            changesNothing(text, Twins::full);
        }
        // These are good where less is there.
        for (String text : new String[] {"wood;wood;wood;wood;wood;wood;wood", "price 3;wire at 3", "wood at 10;wire at 0"}) {
            changesNothing(text, Twins::some);
            changesNothing(text, Twins::full);
        }
    }

    private static void changesNothing(String text, Supplier<HangerRail> scene) {
        HangerRail x = scene.get();
        HangerRail twin = scene.get();
        x.wipe();
        twin.wipe();
        Twins.feed(x, text);
        Twins.feed(twin, text);
        due.is("31: a fault in " + text, x.rail() < 0 ? 1 : 0, 1);
        twin.wipe();
        twins.sameAfter("31: " + text, x, twin);
    }

    private static void mostItems() {
        HangerRail x = new HangerRail();
        due.is("31: as many items as 120 bytes can hold", Due.rail(x, "bar;".repeat(12) + "price1;".repeat(9) + "price2"), 22);
        due.is("31: twelve hangers", x.count(0), 12);
        due.is("31: the last price", x.now(5), 2);
        due.is("31: prices alone", Due.rail(x, "price3;".repeat(16) + "price45"), 17);
        due.is("31: the last of them", x.now(5), 45);
        due.is("31: signs alone", Due.rail(x, ";".repeat(120)), -1);
    }

    private static void fullTape() {
        HangerRail x = new HangerRail();
        due.is("31: 120 bytes that end too early", Due.rail(x, "wire at" + " ".repeat(113)), -121);
        due.is("31: 120 bytes with a fault in the last", Due.rail(x, "wire" + " ".repeat(115) + "?"), -120);
        due.is("31: 120 bytes with a sign last", Due.rail(x, "wire" + " ".repeat(115) + ";"), -121);
        due.is("31: none came", x.count(0), 0);
        due.is("31: 120 bytes with a number last", Due.rail(x, "wire at" + " ".repeat(111) + "23"), 1);
        due.is("31: AT 23", x.of(0, 1), 23);
        due.is("31: no finding", x.status(-1), 0);
    }

    /** What rail() answers to a text; after a fault nothing is there, and the tape is empty either way. */
    private static void answers(String text, int want) {
        HangerRail x = new HangerRail();
        due.is("31: " + text, Due.rail(x, text), want);
        due.is("31: the tape after " + text, x.count(1), 0);
        due.is("31: no finding of " + text, x.status(-1), 0);
        if (want < 0) {
            due.is("31: no hangers of " + text, x.count(0), 0);
            due.is("31: no price of " + text, x.now(5), 4);
            due.is("31: no place of " + text, x.now(6), 24);
        }
    }
}
