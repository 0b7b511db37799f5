import java.util.function.Supplier;

/**
 * Each BEYOND, FULL, KIND, NONE, STATE, MISSING and SIZE of promises 2 to 28, in the order in which they are asked; what
 * stands after each of them is looked at, too.
 */
public final class RefusedTest {
    private static final Due due = new Due();
    private static final Twins twins = new Twins(due);
    private static final Supplier<HangerRail> FRESH = Twins::fresh;
    private static final Supplier<HangerRail> SOME = Twins::some;
    private static final Supplier<HangerRail> FULL = Twins::full;
    private static final Supplier<HangerRail> OUT = Twins::out;
    /** In SOME: those on the rail with their places, and those that are not. */
    private static final int[][] UP = {{0, 3}, {1, 4}, {3, 0}, {4, 23}};
    private static final int[] DOWN = {2, 5};

    public static void main(String[] args) {
        hanger();
        hangersThatAreNot();
        of();
        set();
        turn();
        as();
        price();
        at();
        hang();
        shift();
        manners();
        takenWhileOut();
        pushedWithoutRoom();
        now();
        catches();
        nothingOnTheRail();
        best();
        spotNowhere();
        feels();
        due.end();
    }

    private static void hanger() {
        for (int kind : Twins.outside(0, 5)) {
            twins.refused("2: BEYOND hanger(" + kind + ")", FRESH, x -> x.hanger(kind), Due.BEYOND);
            twins.refused("2: BEYOND hanger(" + kind + ") of some", SOME, x -> x.hanger(kind), Due.BEYOND);
            twins.refused("2: BEYOND, not FULL, hanger(" + kind + ")", FULL, x -> x.hanger(kind), Due.BEYOND);
        }
        for (int k = 0; k < 6; k++) {
            int kind = k;
            twins.refused("2: FULL hanger(" + kind + ")", FULL, x -> x.hanger(kind), Due.FULL);
        }
    }

    /** Every call that is told a hanger: BEYOND, ahead of all else that is wrong. */
    private static void hangersThatAreNot() {
        hangersThatAreNot(FRESH, 0);
        hangersThatAreNot(OUT, 3);
        hangersThatAreNot(SOME, 6);
        hangersThatAreNot(FULL, 12);
    }

    private static void hangersThatAreNot(Supplier<HangerRail> scene, int hangers) {
        for (int h : Twins.outside(0, hangers - 1)) {
            String no = "(" + h + ") of " + hangers;
            for (int w = 0; w < 7; w++) {
                int what = w;
                twins.refused("3: BEYOND of" + no, scene, x -> x.of(h, what), Due.BEYOND);
            }
            twins.refused("4: BEYOND set slip" + no, scene, x -> x.set(h, 3, 1), Due.BEYOND);
            twins.refused("4: BEYOND set feel" + no, scene, x -> x.set(h, 4, 1), Due.BEYOND);
            twins.refused("5: BEYOND turn" + no, scene, x -> x.turn(h, 1), Due.BEYOND);
            twins.refused("6: BEYOND as" + no, scene, x -> x.as(h, 0), Due.BEYOND);
            twins.refused("6: BEYOND, not KIND, as" + no, scene, x -> x.as(h, 5), Due.BEYOND);
            twins.refused("9: BEYOND hang" + no, scene, x -> x.hang(h, 15), Due.BEYOND);
            twins.refused("9: BEYOND, not STATE, hang" + no, scene, x -> x.hang(h, 3), Due.BEYOND);
            twins.refused("10: BEYOND face" + no, scene, x -> x.face(h), Due.BEYOND);
            twins.refused("11: BEYOND shift" + no, scene, x -> x.shift(h, 1), Due.BEYOND);
            twins.refused("11: BEYOND, not STATE, shift" + no, scene, x -> x.shift(h, 99), Due.BEYOND);
            for (int m = 0; m < 3; m++) {
                int manner = m;
                twins.refused("12: BEYOND take" + no, scene, x -> x.take(h, manner), Due.BEYOND);
                twins.refused("16: BEYOND comes" + no, scene, x -> x.comes(h, manner), Due.BEYOND);
                twins.refused("17: BEYOND falls" + no, scene, x -> x.falls(h, manner), Due.BEYOND);
            }
            twins.refused("14: BEYOND tangled" + no, scene, x -> x.tangled(h), Due.BEYOND);
            twins.refused("15: BEYOND catches" + no, scene, x -> x.catches(h, 0), Due.BEYOND);
            twins.refused("15: BEYOND catches the other" + no, scene, x -> x.catches(0, h), Due.BEYOND);
            twins.refused("15: BEYOND catches both" + no, scene, x -> x.catches(h, h), Due.BEYOND);
            twins.refused("20: BEYOND manner" + no, scene, x -> x.manner(h), Due.BEYOND);
            twins.refused("22: BEYOND spot" + no, scene, x -> x.spot(h), Due.BEYOND);
            twins.refused("28: BEYOND kind" + no, scene, x -> x.kind(h), Due.BEYOND);
        }
    }

    private static void of() {
        for (int what : Twins.outside(0, 6)) {
            twins.refused("3: BEYOND of(0, " + what + ")", SOME, x -> x.of(0, what), Due.BEYOND);
        }
    }

    private static void set() {
        for (int what : new int[] {0, 1, 2, 5, 6, 7, -1, -3, 3 + 32, 4 + 256, Due.LEAST, Due.MOST}) {
            for (int v : new int[] {0, 1, 9, 15}) {
                twins.refused("4: BEYOND set(0, " + what + ", " + v + ")", SOME, x -> x.set(0, what, v), Due.BEYOND);
            }
        }
        for (int v : Twins.outside(0, 9)) {
            twins.refused("4: BEYOND slip " + v, SOME, x -> x.set(0, 3, v), Due.BEYOND);
        }
        twins.refused("4: BEYOND slip 15, which is a feel", SOME, x -> x.set(0, 3, 15), Due.BEYOND);
        for (int v : Twins.outside(0, 15)) {
            twins.refused("4: BEYOND feel " + v, SOME, x -> x.set(0, 4, v), Due.BEYOND);
        }
    }

    private static void turn() {
        for (int kind : Twins.outside(0, 5)) {
            twins.refused("5: BEYOND turn(0, " + kind + ")", SOME, x -> x.turn(0, kind), Due.BEYOND);
        }
    }

    private static void as() {
        for (int kind : Twins.outside(0, 5)) {
            twins.refused("6: BEYOND as(0, " + kind + ")", SOME, x -> x.as(0, kind), Due.BEYOND);
        }
        // SOME has a hanger of each kind; here are those kinds that it neither is nor stands under.
        int[][] not = {{0, 2, 3, 4, 5}, {1, 2, 4, 5}, {2, 1, 3, 4, 5}, {3, 1, 3, 4}, {4, 2, 3, 5}, {5, 1, 2, 3, 4, 5}};
        for (int[] row : not) {
            for (int i = 1; i < row.length; i++) {
                int kind = row[i];
                twins.refused("6: KIND as(" + row[0] + ", " + kind + ")", SOME, x -> x.as(row[0], kind), Due.KIND);
            }
        }
    }

    private static void price() {
        for (int v : Twins.outside(0, 99)) {
            twins.refused("7: BEYOND price(" + v + ")", SOME, x -> x.price(v), Due.BEYOND);
        }
    }

    private static void at() {
        for (int place : Twins.outside(0, 23)) {
            twins.refused("8: BEYOND at(" + place + ")", SOME, x -> x.at(place), Due.BEYOND);
            twins.refused("8: BEYOND, not NONE, at(" + place + ")", FRESH, x -> x.at(place), Due.BEYOND);
        }
        for (int p = 0; p < 24; p++) {
            int place = p;
            twins.refused("8: NONE at(" + place + ") of nothing", FRESH, x -> x.at(place), Due.NONE);
            twins.refused("8: NONE at(" + place + ") of those OUT", OUT, x -> x.at(place), Due.NONE);
            if (place > 11) {
                twins.refused("8: NONE at(" + place + ") of twelve", FULL, x -> x.at(place), Due.NONE);
            }
        }
    }

    private static void hang() {
        for (int place : Twins.outside(0, 23)) {
            twins.refused("9: BEYOND hang(5, " + place + ")", SOME, x -> x.hang(5, place), Due.BEYOND);
            twins.refused("9: BEYOND, not STATE, hang(0, " + place + ")", SOME, x -> x.hang(0, place), Due.BEYOND);
        }
        for (int[] up : UP) {
            for (int p = 0; p < 24; p++) {
                int place = p;
                twins.refused("9: STATE, it isn't OUT, hang(" + up[0] + ", " + place + ")", SOME, x -> x.hang(up[0], place), Due.STATE);
            }
            for (int h : DOWN) {
                twins.refused("9: STATE, not free, hang(" + h + ", " + up[1] + ")", SOME, x -> x.hang(h, up[1]), Due.STATE);
            }
        }
    }

    private static void shift() {
        for (int h : DOWN) {
            for (int by : new int[] {0, 1, 2, -1, 6, 24, Due.LEAST, Due.MOST}) {
                twins.refused("11: STATE, it is OUT, shift(" + h + ", " + by + ")", SOME, x -> x.shift(h, by), Due.STATE);
            }
        }
        for (int[] up : UP) {
            for (int[] other : UP) {
                int by = other[1] - up[1];
                twins.refused("11: STATE, not free, shift(" + up[0] + ", " + by + ")", SOME, x -> x.shift(up[0], by), Due.STATE);
            }
            int left = -1 - up[1];
            int right = 24 - up[1];
            for (int by : new int[] {left, left - 1, -24, -100, Due.LEAST, Due.LEAST + 23, right, right + 1, 24, 100, Due.MOST, Due.MOST - 23}) {
                twins.refused("11: STATE, no such place, shift(" + up[0] + ", " + by + ")", SOME, x -> x.shift(up[0], by), Due.STATE);
            }
        }
    }

    private static void manners() {
        for (int manner : Twins.outside(0, 2)) {
            // Of one on the rail, and of one that is OUT: BEYOND is asked ahead of STATE.
            for (int h : new int[] {0, 5}) {
                twins.refused("12: BEYOND take(" + h + ", " + manner + ")", SOME, x -> x.take(h, manner), Due.BEYOND);
                twins.refused("16: BEYOND comes(" + h + ", " + manner + ")", SOME, x -> x.comes(h, manner), Due.BEYOND);
                twins.refused("17: BEYOND falls(" + h + ", " + manner + ")", SOME, x -> x.falls(h, manner), Due.BEYOND);
            }
        }
        for (int manner : Twins.outside(0, 1)) {
            twins.refused("24: BEYOND clears(" + manner + ")", SOME, x -> x.clears(manner), Due.BEYOND);
            twins.refused("24: BEYOND clears(" + manner + ") of nothing", FRESH, x -> x.clears(manner), Due.BEYOND);
        }
    }

    private static void takenWhileOut() {
        for (int h : DOWN) {
            for (int m = 0; m < 3; m++) {
                int manner = m;
                twins.refused("12: STATE, it is OUT, take(" + h + ", " + manner + ")", SOME, x -> x.take(h, manner), Due.STATE);
                twins.refused("16: STATE, it is OUT, comes(" + h + ", " + manner + ")", SOME, x -> x.comes(h, manner), Due.STATE);
                twins.refused("17: STATE, it is OUT, falls(" + h + ", " + manner + ")", SOME, x -> x.falls(h, manner), Due.STATE);
            }
        }
    }

    /** One in the middle and at both ends, with none, one or both of its neighbours there, as each kind. */
    private static void pushedWithoutRoom() {
        int[] need = {1, 1, 2, 2, 1, 2};
        for (int k = 0; k < 6; k++) {
            for (int place : new int[] {0, 1, 11, 22, 23}) {
                for (int there = 0; there < 4; there++) {
                    boolean left = place > 0 && (there & 1) != 0;
                    boolean right = place < 23 && (there & 2) != 0;
                    int free = (place > 0 && !left ? 1 : 0) + (place < 23 && !right ? 1 : 0);
                    pushed(k, place, left, right, free >= need[k]);
                }
            }
        }
    }

    private static void pushed(int kind, int place, boolean left, boolean right, boolean room) {
        Supplier<HangerRail> scene = () -> {
            HangerRail x = new HangerRail();
            x.hanger(kind);
            x.hanger(1);
            x.hanger(1);
            x.hang(0, place);
            x.hang(1, left ? place - 1 : 7);
            x.hang(2, right ? place + 1 : 16);
            x.set(0, 3, 9);
            return x;
        };
        String call = "kind " + kind + " at " + place + (left ? ", left taken" : "") + (right ? ", right taken" : "");
        if (room) {
            twins.asked("16: pushed " + call, scene, x -> x.comes(0, 2), 1);
            twins.asked("17: pushed " + call, scene, x -> x.falls(0, 2), 0);
            due.is("12: pushed " + call, scene.get().take(0, 2), 1);
        } else {
            twins.refused("16: STATE " + call, scene, x -> x.comes(0, 2), Due.STATE);
            twins.refused("17: STATE " + call, scene, x -> x.falls(0, 2), Due.STATE);
            twins.refused("12: STATE " + call, scene, x -> x.take(0, 2), Due.STATE);
        }
    }

    private static void now() {
        for (int what : Twins.outside(0, 6)) {
            twins.refused("13: BEYOND now(" + what + ")", SOME, x -> x.now(what), Due.BEYOND);
            twins.refused("13: BEYOND now(" + what + ") of nothing", FRESH, x -> x.now(what), Due.BEYOND);
        }
    }

    private static void catches() {
        for (int h = 0; h < 6; h++) {
            int one = h;
            twins.refused("15: BEYOND, one and the same, catches(" + h + ", " + h + ")", SOME, x -> x.catches(one, one), Due.BEYOND);
        }
    }

    private static void nothingOnTheRail() {
        twins.refused("19: NONE greatest() of nothing", FRESH, x -> x.greatest(), Due.NONE);
        twins.refused("19: NONE greatest() of those OUT", OUT, x -> x.greatest(), Due.NONE);
        twins.refused("21: NONE first() of nothing", FRESH, x -> x.first(), Due.NONE);
        twins.refused("21: NONE first() of those OUT", OUT, x -> x.first(), Due.NONE);
        for (int f = 0; f < 16; f++) {
            int feel = f;
            twins.refused("27: NONE feels(" + feel + ") of nothing", FRESH, x -> x.feels(feel), Due.NONE);
            twins.refused("27: NONE feels(" + feel + ") of those OUT", OUT, x -> x.feels(feel), Due.NONE);
        }
    }

    private static void best() {
        for (int h : DOWN) {
            twins.refused("20: STATE, it is OUT, manner(" + h + ")", SOME, x -> x.manner(h), Due.STATE);
            twins.refused("22: STATE, it is OUT, spot(" + h + ")", SOME, x -> x.spot(h), Due.STATE);
            twins.refused("28: STATE, it is OUT, kind(" + h + ")", SOME, x -> x.kind(h), Due.STATE);
        }
    }

    /** Wires at each second place from an end on catch all that face as they do wherever it is. */
    private static void spotNowhere() {
        for (int first = 0; first < 2; first++) {
            int from = first;
            Supplier<HangerRail> scene = () -> {
                HangerRail x = new HangerRail();
                for (int h = 0; h < 12; h++) {
                    x.hanger(1);
                    x.hang(h, from + 2 * h);
                }
                return x;
            };
            // The last one from 0 on, and the first one from 1 on, may go to the end.
            for (int h = from; h < from + 11; h++) {
                int one = h;
                twins.refused("22: NONE spot(" + h + ") from " + from, scene, x -> x.spot(one), Due.NONE);
            }
        }
    }

    private static void feels() {
        for (int feel : Twins.outside(0, 15)) {
            twins.refused("27: BEYOND feels(" + feel + ")", SOME, x -> x.feels(feel), Due.BEYOND);
            twins.refused("27: BEYOND, not NONE, feels(" + feel + ")", FRESH, x -> x.feels(feel), Due.BEYOND);
            twins.refused("27: BEYOND, not NONE, feels(" + feel + ") of those OUT", OUT, x -> x.feels(feel), Due.BEYOND);
        }
    }
}
