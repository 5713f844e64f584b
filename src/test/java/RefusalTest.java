/** Promises 2 to 9: what is refused, in which order, and that it changes nothing. */
public final class RefusalTest {
    private static final Check C = new Check("RefusalTest");
    private static final int NONE = -1, BAD = -2, STATE = -3, FULL = -4;
    private static final int LEAST = Integer.MIN_VALUE, MOST = Integer.MAX_VALUE;
    private static final int[] NO_CELLS = {-1, 36, LEAST, MOST};
    private static final int[] NO_VERTICES = {-1, 49, LEAST, MOST};
    private static final int[] NO_BITS = {-1, 2, LEAST, MOST};
    private static final Setting[] ANY = {Scenes.NEW, Scenes.LAID, Scenes.FULL};

    public static void main(String[] args) {
        cellNone();
        cellBad();
        fillNone();
        fillBadIs();
        fillBadRowOrColumn();
        layNone();
        layState();
        turnNone();
        turnStateNoneLaid();
        turnStateCannotBe();
        beginNone();
        walkBad();
        walkState();
        walkFull();
        feedBad();
        feedFull();
        readFault();
        readClausesRefused();
        C.end();
    }

    private static void cellNone() {
        for (Setting setting : ANY) {
            for (int no : NO_CELLS) {
                C.still("2 NONE cell " + no, setting, x -> x.cell(no, 1), NONE);
                C.still("2 NONE ahead of BAD, cell " + no, setting, x -> x.cell(no, 2), NONE);
            }
        }
    }

    private static void cellBad() {
        for (Setting setting : ANY) {
            for (int no : NO_BITS) {
                C.still("2 BAD is " + no, setting, x -> x.cell(0, no), BAD);
                C.still("2 BAD is " + no + ", last cell", setting, x -> x.cell(35, no), BAD);
            }
        }
    }

    private static void fillNone() {
        for (Setting setting : ANY) {
            for (int no : NO_CELLS) {
                C.still("3 NONE from " + no, setting, x -> x.fill(no, 35, 1), NONE);
                C.still("3 NONE to " + no, setting, x -> x.fill(0, no, 0), NONE);
                C.still("3 NONE both " + no, setting, x -> x.fill(no, no, 0), NONE);
                C.still("3 NONE ahead of BAD, from " + no, setting, x -> x.fill(no, 0, 2), NONE);
                C.still("3 NONE ahead of BAD, to " + no, setting, x -> x.fill(35, no, -1), NONE);
            }
        }
    }

    private static void fillBadIs() {
        for (Setting setting : ANY) {
            for (int no : NO_BITS) {
                C.still("3 BAD is " + no, setting, x -> x.fill(0, 35, no), BAD);
            }
        }
    }

    private static void fillBadRowOrColumn() {
        int[][] less = {{6, 0}, {6, 1}, {7, 0}, {1, 0}, {1, 6}, {5, 30}, {35, 34}, {35, 29}, {35, 0}, {30, 5}};
        for (Setting setting : ANY) {
            for (int[] two : less) {
                for (int is = 0; is < 2; is++) {
                    int in = is;
                    String name = "3 BAD less, from " + two[0] + " to " + two[1] + ", " + is;
                    C.still(name, setting, x -> x.fill(two[0], two[1], in), BAD);
                }
            }
        }
    }

    private static void layNone() {
        for (int no : NO_BITS) {
            C.still("4 NONE which " + no, Scenes.LAID, x -> x.lay(no), NONE);
            C.still("4 NONE which " + no, Scenes.FULL, x -> x.lay(no), NONE);
            C.still("4 NONE ahead of STATE, which " + no, Scenes.NEW, x -> x.lay(no), NONE);
        }
    }

    private static void layState() {
        Setting[] none = {Scenes.NEW, Scenes.APART, Scenes.ODD, Scenes.FORK, Scenes.RING};
        for (Setting setting : none) {
            C.still("4 STATE least", setting, x -> x.lay(0), STATE);
            C.still("4 STATE greatest", setting, x -> x.lay(1), STATE);
        }
    }

    private static void turnNone() {
        for (Setting setting : ANY) {
            for (int no : NO_VERTICES) {
                C.still("5 NONE vertex " + no, setting, x -> x.turn(no), NONE);
            }
        }
    }

    private static void turnStateNoneLaid() {
        Setting square = Scenes.cells(0, 1, 6, 7);
        for (Setting setting : new Setting[] {Scenes.NEW, Scenes.APART, Scenes.FORK, square}) {
            C.still("5 STATE none is laid", setting, x -> x.turn(8), STATE);
            C.still("5 STATE none is laid, first", setting, x -> x.turn(0), STATE);
            C.still("5 STATE none is laid, last", setting, x -> x.turn(48), STATE);
        }
    }

    private static void turnStateCannotBe() {
        Setting threeTwos = Scenes.cells(0, 1, 2, 6, 7, 8).then(x -> x.lay(0));
        C.still("5 STATE four CELLS of three twos", threeTwos, x -> x.turn(8), STATE);
        Setting laid = Scenes.cells(0, 1, 6, 7, 8, 14).then(x -> x.lay(0));
        C.due("5 it can be", laid.made().turn(8), 1);
        for (int i = 0; i < 49; i++) {
            int vertex = i;
            if (vertex != 8) {
                C.still("5 STATE it can't be at " + vertex, laid, x -> x.turn(vertex), STATE);
            }
        }
        for (int i = 0; i < 49; i++) {
            int vertex = i;
            if (vertex / 7 == 0 || vertex / 7 == 6 || vertex % 7 == 0 || vertex % 7 == 6) {
                C.due("5 STATE by the rim " + vertex, Scenes.FULL.made().turn(vertex), STATE);
            }
        }
    }

    private static void beginNone() {
        for (Setting setting : ANY) {
            for (int no : NO_VERTICES) {
                C.still("6 NONE vertex " + no, setting, x -> x.begin(no), NONE);
            }
        }
    }

    private static void walkBad() {
        for (int no : new int[] {-1, 4, LEAST, MOST}) {
            C.still("7 BAD way " + no, Scenes.LAID, x -> x.walk(no), BAD);
            C.still("7 BAD ahead of STATE, way " + no, Scenes.NEW, x -> x.walk(no), BAD);
            C.still("7 BAD ahead of FULL, way " + no, Scenes.FULL, x -> x.walk(no), BAD);
        }
    }

    private static void walkState() {
        for (int i = 0; i < 7; i++) {
            int at = i;
            C.still("7 STATE u from " + at, Scenes.LAID.then(x -> x.begin(at)), x -> x.walk(3), STATE);
            C.still("7 STATE d from " + at, Scenes.LAID.then(x -> x.begin(42 + at)), x -> x.walk(1), STATE);
            C.still("7 STATE l from " + at, Scenes.LAID.then(x -> x.begin(7 * at)), x -> x.walk(2), STATE);
            C.still("7 STATE r from " + at, Scenes.LAID.then(x -> x.begin(7 * at + 6)), x -> x.walk(0), STATE);
        }
        C.still("7 STATE ahead of FULL, l", Scenes.FULL, x -> x.walk(2), STATE);
        C.still("7 STATE ahead of FULL, u", Scenes.FULL, x -> x.walk(3), STATE);
    }

    private static void walkFull() {
        C.still("7 FULL r", Scenes.FULL, x -> x.walk(0), FULL);
        C.still("7 FULL d", Scenes.FULL, x -> x.walk(1), FULL);
    }

    private static void feedBad() {
        for (int no : new int[] {-1, 128, 256, LEAST, MOST}) {
            C.still("8 BAD sign " + no, Scenes.NEW, x -> x.feed(no), BAD);
            C.still("8 BAD sign " + no, Scenes.LAID, x -> x.feed(no), BAD);
            C.still("8 BAD ahead of FULL, sign " + no, Scenes.FULL, x -> x.feed(no), BAD);
        }
    }

    private static void feedFull() {
        for (int sign : new int[] {0, ';', 'm', 127}) {
            C.still("8 FULL sign " + sign, Scenes.FULL, x -> x.feed(sign), FULL);
        }
    }

    /** Nothing of a text with a FAULT is done, and it is gone. */
    private static void readFault() {
        String[] faults = {"c55;m;f0055;l;x", "e0055;c", "w00rdrd;c00;c0", "c00;", "t33 ", "m;m;m;m;m;m;m;m;m;m;m;c00;c00"};
        int[] places = {14, 7, 14, 4, 3, 25};
        for (int i = 0; i < faults.length; i++) {
            Setting empty = Scenes.LAID.then(RegionWords::read);
            Setting fed = Scenes.text(empty, faults[i]);
            C.due("9 FAULT of " + faults[i], fed.made().read(), -10 - places[i]);
            C.same("9 FAULT of " + faults[i], fed.then(RegionWords::read), empty);
        }
    }

    /** Each of these CLAUSES would be refused, by itself and with others. */
    private static void readClausesRefused() {
        String[] refused = {
            "c06", "c60", "c99", "f6055", "f0655", "f0065", "f0056", "f1000", "f0100", "f5554", "f5545", "e6055",
            "e0655", "e0065", "e0056", "e1000", "e0100", "t00", "t06", "t60", "t66", "t07", "t70", "t99", "t13", "t32",
            "w07l", "w70u", "w99u", "w00l", "w00u", "w66r", "w66d", "w06r", "w60d", "w00rrrrrrr", "w00rull", "w01lld"};
        Setting empty = Scenes.LAID.then(RegionWords::read);
        for (String clause : refused) {
            Setting fed = Scenes.text(empty, clause);
            C.due("9 refused " + clause, fed.made().read(), 0);
            C.same("9 refused " + clause, fed.then(RegionWords::read), empty);
        }
        C.due("9 it was laid", empty.made().told(7) >= 0 ? 1 : 0, 1);
        Setting some = Scenes.text(empty, "c06;c55;t33;l;g;w00u");
        C.due("9 one of six is done", some.made().read(), 1);
        C.same("9 one of six is done", some.then(RegionWords::read), empty.then(x -> x.cell(35, 1)));
        for (String clause : new String[] {"l", "g", "l;g;t11;t33"}) {
            for (Setting setting : new Setting[] {Scenes.NEW, Scenes.APART, Scenes.ODD, Scenes.FORK}) {
                Setting fed = Scenes.text(setting, clause);
                C.due("9 refused " + clause, fed.made().read(), 0);
                C.same("9 refused " + clause, fed.then(RegionWords::read), setting);
            }
        }
    }
}
