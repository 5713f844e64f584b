/** Promises 22, 26, 28, 32, 34, 35, 37: rows and tapes refused, in which order, and that it changes nothing. */
public final class RefusedRowsTest {
    private static final Check C = new Check("RefusedRowsTest");
    private static final int NONE = -1, BAD = -2, STATE = -3, FULL = -4;
    private static final int NOTHING = -11, CAST = -12, PLACE = -13, SIZE = -14;
    private static final int LEAST = Integer.MIN_VALUE, MOST = Integer.MAX_VALUE;
    private static final int[] NO_TAPES = {-1, 6, LEAST, MOST};
    private static final Setting[] ANY = {Scenes.NEW, Scenes.LAID, Scenes.FULL};

    public static void main(String[] args) {
        seeNone();
        seeBad();
        seeFull();
        eventNone();
        eventBad();
        eventFull();
        bookNone();
        bookBad();
        bookFull();
        undoState();
        tapeNone();
        tapeBad();
        tapeSize();
        itemNone();
        itemNothing();
        itemPlace();
        shiftNone();
        shiftNothing();
        shiftCast();
        shiftPlace();
        C.end();
    }

    private static void seeNone() {
        for (Setting setting : ANY) {
            for (int no : new int[] {-2, 3, LEAST, MOST}) {
                C.still("22 NONE what " + no, setting, x -> x.see(no, 0), NONE);
                C.still("22 NONE ahead of BAD, what " + no, setting, x -> x.see(no, 145), NONE);
                C.still("22 NONE ahead of BAD, what " + no, setting, x -> x.see(no, -1), NONE);
            }
        }
    }

    private static void seeBad() {
        for (Setting setting : ANY) {
            for (int k = 0; k < 3; k++) {
                int what = k;
                for (int no : new int[] {-1, 145, LEAST, MOST}) {
                    C.still("22 BAD n " + no, setting, x -> x.see(what, no), BAD);
                }
            }
        }
    }

    private static void seeFull() {
        for (int k = 0; k < 3; k++) {
            int what = k;
            C.still("22 FULL 4, what " + what, Scenes.FULL, x -> x.see(what, 0), FULL);
            C.still("22 FULL 4, what " + what, Scenes.FULL, x -> x.see(what, 144), FULL);
        }
    }

    private static void eventNone() {
        for (Setting setting : ANY) {
            for (int no : new int[] {-2, 4, LEAST, MOST}) {
                C.still("26 NONE what " + no, setting, x -> x.event(no, 0), NONE);
                C.still("26 NONE what " + no + ", n", setting, x -> x.event(no, -1), NONE);
            }
            for (int no : new int[] {-1, 36, LEAST, MOST}) {
                C.still("26 NONE CELL " + no, setting, x -> x.event(0, no), NONE);
            }
            for (int no : new int[] {-1, 6, LEAST, MOST}) {
                C.still("26 NONE row " + no, setting, x -> x.event(1, no), NONE);
                C.still("26 NONE column " + no, setting, x -> x.event(2, no), NONE);
            }
        }
    }

    private static void eventBad() {
        for (Setting setting : ANY) {
            for (int no : new int[] {-1, 1, 3, LEAST, MOST}) {
                C.still("26 BAD n " + no, setting, x -> x.event(3, no), BAD);
            }
        }
    }

    private static void eventFull() {
        int[][] rows = {{0, 0}, {0, 35}, {1, 0}, {1, 5}, {2, 0}, {2, 5}, {3, 0}};
        for (int[] row : rows) {
            C.still("26 FULL 8, " + row[0], Scenes.FULL, x -> x.event(row[0], row[1]), FULL);
        }
    }

    private static void bookNone() {
        for (Setting setting : ANY) {
            for (int no : new int[] {-2, 36, LEAST, MOST}) {
                C.still("28 NONE cell " + no, setting, x -> x.book(no, 1), NONE);
                C.still("28 NONE ahead of BAD, cell " + no, setting, x -> x.book(no, 2), NONE);
            }
        }
    }

    private static void bookBad() {
        for (Setting setting : ANY) {
            for (int no : new int[] {-1, 2, LEAST, MOST}) {
                C.still("28 BAD is " + no, setting, x -> x.book(0, no), BAD);
                C.still("28 BAD is " + no + ", last cell", setting, x -> x.book(35, no), BAD);
            }
        }
    }

    private static void bookFull() {
        for (int cell : new int[] {0, 35}) {
            C.still("28 FULL 8, cell " + cell, Scenes.FULL, x -> x.book(cell, 0), FULL);
            C.still("28 FULL 8, cell " + cell, Scenes.FULL, x -> x.book(cell, 1), FULL);
        }
    }

    private static void undoState() {
        for (Setting setting : new Setting[] {Scenes.NEW, Scenes.APART, Scenes.ODD, Scenes.FORK, Scenes.RING}) {
            C.still("32 STATE there is none", setting, RegionWords::undo, STATE);
        }
        Setting much = Scenes.cells(0, 1).then(x -> x.lay(1)).then(x -> x.walk(0)).then(x -> x.see(0, 1));
        C.still("32 STATE there is none", much.then(x -> x.event(3, 0)), RegionWords::undo, STATE);
    }

    private static void tapeNone() {
        for (Setting setting : ANY) {
            for (int no : NO_TAPES) {
                C.still("34 NONE tape " + no, setting, x -> x.tape(no, 0, 1), NONE);
                C.still("34 NONE tape " + no + ", to hold nothing", setting, x -> x.tape(no, -1, 0), NONE);
                C.still("34 NONE ahead of BAD, tape " + no, setting, x -> x.tape(no, 5, 61), NONE);
                C.still("34 NONE ahead of SIZE, tape " + no, setting, x -> x.tape(no, 0, -1), NONE);
            }
        }
    }

    private static void tapeBad() {
        for (Setting setting : ANY) {
            for (int no : new int[] {-2, 5, LEAST, MOST}) {
                C.still("34 BAD sort " + no, setting, x -> x.tape(0, no, 0), BAD);
                C.still("34 BAD ahead of SIZE, sort " + no, setting, x -> x.tape(5, no, -1), BAD);
            }
            for (int k = 0; k < 5; k++) {
                int sort = k;
                C.still("34 BAD n 61, sort " + sort, setting, x -> x.tape(sort, sort, 61), BAD);
                C.still("34 BAD n far above, sort " + sort, setting, x -> x.tape(sort, sort, MOST), BAD);
            }
        }
    }

    private static void tapeSize() {
        for (Setting setting : ANY) {
            for (int k = 0; k < 5; k++) {
                int sort = k;
                C.still("34 SIZE -1, sort " + sort, setting, x -> x.tape(sort, sort, -1), SIZE);
                C.still("34 SIZE far below, sort " + sort, setting, x -> x.tape(sort, sort, LEAST), SIZE);
            }
        }
    }

    private static void itemNone() {
        for (Setting setting : ANY) {
            for (int no : NO_TAPES) {
                C.still("35 NONE tape " + no, setting, x -> x.item(no, 0, 1), NONE);
                C.still("35 NONE ahead of PLACE, tape " + no, setting, x -> x.item(no, -1, 1), NONE);
            }
        }
    }

    private static void itemNothing() {
        for (int place : new int[] {0, -1, 60, LEAST, MOST}) {
            C.still("35 NOTHING, place " + place, Scenes.LAID, x -> x.item(5, place, 1), NOTHING);
            C.still("35 NOTHING, place " + place, Scenes.NEW, x -> x.item(0, place, 1), NOTHING);
            Setting gone = Scenes.FULL.then(x -> x.tape(3, -1, 60));
            C.still("35 NOTHING any more, place " + place, gone, x -> x.item(3, place, 1), NOTHING);
        }
    }

    private static void itemPlace() {
        for (int k = 0; k < 5; k++) {
            int tape = k;
            for (int place : new int[] {-1, 37, LEAST, MOST}) {
                C.still("35 PLACE " + place + " of " + tape, Scenes.LAID, x -> x.item(tape, place, 1), PLACE);
            }
            C.still("35 PLACE 60 of " + tape, Scenes.FULL, x -> x.item(tape, 60, 1), PLACE);
            Setting empty = Scenes.LAID.then(x -> x.tape(tape, tape, 0));
            C.still("35 PLACE 0 of an empty row " + tape, empty, x -> x.item(tape, 0, 1), PLACE);
        }
    }

    private static void shiftNone() {
        for (Setting setting : ANY) {
            for (int no : NO_TAPES) {
                C.still("37 NONE tape " + no, setting, x -> x.shift(no, 0, 0, 0, 1), NONE);
                C.still("37 NONE other " + no, setting, x -> x.shift(0, 0, no, 0, 1), NONE);
                C.still("37 NONE ahead of NOTHING " + no, setting, x -> x.shift(5, 0, no, 0, 1), NONE);
                C.still("37 NONE ahead of PLACE " + no, setting, x -> x.shift(no, -1, 0, -1, -1), NONE);
            }
        }
    }

    private static void shiftNothing() {
        for (int n = -1; n < 2; n++) {
            int many = n;
            C.still("37 NOTHING in either", Scenes.NEW, x -> x.shift(0, 0, 1, 0, many), NOTHING);
            C.still("37 NOTHING in the same", Scenes.NEW, x -> x.shift(2, 0, 2, 0, many), NOTHING);
            C.still("37 NOTHING in the first", Scenes.LAID, x -> x.shift(5, 0, 4, 0, many), NOTHING);
            C.still("37 NOTHING in the other", Scenes.LAID, x -> x.shift(4, 0, 5, 0, many), NOTHING);
        }
    }

    private static void shiftCast() {
        for (int k = 0; k < 25; k++) {
            int from = k / 5;
            int to = k % 5;
            if (from != to) {
                C.still("37 CAST " + from + " to " + to, Scenes.LAID, x -> x.shift(from, 0, to, 0, 1), CAST);
                C.still("37 CAST " + from + " to " + to + ", none", Scenes.LAID, x -> x.shift(from, 0, to, 0, 0), CAST);
                C.still("37 CAST ahead of PLACE", Scenes.LAID, x -> x.shift(from, -1, to, 99, -1), CAST);
            }
        }
    }

    /** Rows of 37 longs and of 5; sums beyond an int, too. */
    private static void shiftPlace() {
        Setting setting = Scenes.LAID.then(x -> x.tape(5, 3, 5));
        int[][] places = {
            {0, 0, -1}, {-1, 0, 1}, {0, -1, 1}, {-1, 0, 0}, {0, -1, 0}, {37, 0, 1}, {36, 0, 2}, {38, 0, 0}, {0, 5, 1},
            {0, 4, 2}, {0, 6, 0}, {0, 0, 6}, {33, 0, 5}, {0, 1, 5}, {0, 0, 37}, {0, 0, 38}, {MOST, 0, 1}, {0, MOST, 1},
            {0, 0, MOST}, {1, 0, MOST}, {0, 1, MOST}, {MOST, MOST, MOST}, {LEAST, 0, 1}, {0, LEAST, 1}, {0, 0, LEAST},
            {LEAST, LEAST, LEAST}, {-1, 0, LEAST}, {5, 0, -5}};
        for (int[] p : places) {
            String name = "37 PLACE " + p[0] + " to " + p[1] + ", " + p[2];
            C.still(name, setting, x -> x.shift(3, p[0], 5, p[1], p[2]), PLACE);
            C.still(name + ", back", setting, x -> x.shift(5, p[1], 3, p[0], p[2]), PLACE);
        }
        C.still("37 PLACE in the same, beyond", Scenes.FULL, x -> x.shift(2, 1, 2, 0, 60), PLACE);
        C.still("37 PLACE in the same, to beyond", Scenes.FULL, x -> x.shift(2, 0, 2, 1, 60), PLACE);
        Setting empty = Scenes.LAID.then(x -> x.tape(3, 3, 0));
        C.still("37 PLACE in an empty row", empty, x -> x.shift(3, 0, 3, 0, 1), PLACE);
    }
}
