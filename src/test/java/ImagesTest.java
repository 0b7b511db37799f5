/** Promises 38 to 42: images, counts, status. */
public final class ImagesTest {
    private static final Due due = new Due();

    public static void main(String[] args) {
        imageAndUndo();
        latestImage();
        tear();
        count();
        status();
        statusCountsEachFinding();
        due.end();
    }

    private static void imageAndUndo() {
        HangerRail x = Due.told("wire at 3 back shirt 4 feel 5; bent at 4 shirt 2; price 9");
        x.face(1);
        Due.feed(x, "wire");
        x.sheet(0, 8, 2);
        x.write(0, 0, 5);
        due.is("38: image", x.image(), 1);
        x.write(0, 0, 6);
        x.hanger(2);
        x.hang(2, 9);
        x.turn(0, 5);
        x.set(0, 4, 1);
        x.face(0);
        x.take(1, 1);
        x.price(1);
        x.feed(';', 1);
        due.is("38: BEYOND", x.at(30), Due.BEYOND);
        due.is("39: two hangers", x.undo(), 2);
        int[][] want = {{1, 3, 1, 4, 5}, {3, 4, 1, 2, 0}};
        for (int h = 0; h < 2; h++) {
            for (int what = 0; what < 5; what++) {
                due.is("39: of(" + h + ", " + what + ")", x.of(h, what), want[h][what]);
            }
        }
        due.is("39: moves", x.now(0), 1);
        due.is("39: price", x.now(5), 9);
        due.is("39: place 9 is free", x.at(9), Due.NONE);
        due.is("39: place 3", x.at(3), 0);
        due.is("39: no third hanger", x.of(2, 0), Due.BEYOND);
        due.is("39: the tape is as it is", x.count(1), 5);
        due.is("39: sheets are as they are", x.write(0, 0, 0), 6);
        due.is("39: findings stay", x.status(0), 2);
        due.is("39: a third hanger is new", x.hanger(1), 2);
        due.is("39: and OUT", x.of(2, 1), -1);
    }

    private static void latestImage() {
        HangerRail x = Due.told("wire");
        x.image();
        x.hanger(1);
        x.image();
        x.hanger(1);
        due.is("39: the latest", x.undo(), 2);
        x.hanger(1);
        x.hang(0, 7);
        due.is("39: it stays", x.undo(), 2);
        due.is("39: OUT again", x.of(0, 1), -1);
        x.hang(0, 5);
        x.set(1, 3, 8);
        due.is("39: it is not touched by what comes later", x.undo(), 2);
        due.is("39: no shirt", x.of(1, 3), 0);
    }

    private static void tear() {
        HangerRail x = Due.told("wire");
        due.is("40: nothing was", x.tear(), 0);
        x.image();
        x.image();
        due.is("40: something was", x.tear(), 1);
        due.is("40: nothing any more", x.tear(), 0);
        due.is("39: nothing is kept", x.undo(), Due.NONE);
        due.is("40: what there is stays", x.count(0), 1);
    }

    private static void count() {
        HangerRail x = Due.told("wire at 3 back; wire; wire back; wood at 9");
        Due.feed(x, "abc");
        due.is("41: hangers", x.count(0), 4);
        due.is("41: bytes", x.count(1), 3);
        due.is("41: on the rail", x.count(2), 2);
        due.is("41: facing 1, on the rail or not", x.count(3), 2);
        due.is("41: 4", x.count(4), Due.BEYOND);
        due.is("41: -1", x.count(-1), Due.BEYOND);
    }

    private static void status() {
        HangerRail x = new HangerRail();
        due.is("42: none", x.status(-1), 0);
        due.is("42: -2", x.status(-2), Due.BEYOND);
        due.is("42: counted from then on", x.status(0), 1);
        due.is("42: 7", x.status(7), Due.BEYOND);
        due.is("42: least", x.status(Due.LEAST), Due.BEYOND);
        due.is("42: all", x.status(-1), 3);
        for (int which = 1; which < 7; which++) {
            due.is("42: none of " + which, x.status(which), 0);
        }
        x.image();
        x.at(24);
        x.undo();
        due.is("42: undo takes none back", x.status(-1), 4);
    }

    private static void statusCountsEachFinding() {
        HangerRail x = Due.told("wire;wire;wire;wire;wire;wire;wire;wire;wire;wire;wire;wire");
        x.of(0, 9);
        x.hanger(0);
        x.as(0, 2);
        x.at(0);
        x.undo();
        x.shift(0, 1);
        x.take(0, 0);
        x.spot(0);
        x.write(0, 0, 0);
        x.sheet(0, 8, -1);
        int[] want = {1, 1, 1, 2, 3, 1, 1};
        for (int which = 0; which < 7; which++) {
            due.is("42: status(" + which + ")", x.status(which), want[which]);
        }
        due.is("42: ten in all", x.status(-1), 10);
    }
}
