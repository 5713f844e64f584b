/** The TILING laid, LEAST, GREATEST, TURN, RANK at their bounds: promises 2 to 5, 9 to 11, 13, 32. */
public final class TilingEdgesTest {
    private static final Check C = new Check("TilingEdgesTest");

    public static void main(String[] args) {
        noneIsLaidAtFirst();
        noneIsLaidAsSoonAsTheRegionChanges();
        itStaysIfNothingChanges();
        undoneItIsLaidAgain();
        leastIsGreatestIfThereIsOne();
        leastAndGreatestOfASquare();
        leastAndGreatestOfAll();
        eachCellIsInOneTwo();
        turnAtTheFirstAndTheLast();
        turnThereAndBack();
        turnOnlyOfTwoTwos();
        turnOfThreeCells();
        rankFromLeastToGreatest();
        heightsOfATwo();
        heightsByTheTilingAreOfTheRegion();
        layAgain();
        C.end();
    }

    private static void laid(String name, Setting setting, boolean is) {
        C.due(name + ": RANK", setting.made().told(7) == -5 ? 0 : 1, is ? 1 : 0);
        C.due(name + ": a two", setting.made().of(14, 2) == -5 ? 0 : 1, is ? 1 : 0);
        C.due(name + ": HEIGHT", setting.made().height(24, 3) == -3 ? 0 : 1, is ? 1 : 0);
    }

    private static Setting square() {
        return Scenes.cells(14, 15, 20, 21).then(x -> x.lay(0));
    }

    private static void noneIsLaidAtFirst() {
        laid("11 a new object", Scenes.NEW, false);
        laid("11 CELLS alone", Scenes.cells(14, 15, 20, 21), false);
        laid("11 laid", square(), true);
    }

    private static void noneIsLaidAsSoonAsTheRegionChanges() {
        laid("2 a CELL more", square().then(x -> x.cell(0, 1)), false);
        laid("2 a CELL less", square().then(x -> x.cell(21, 0)), false);
        laid("2 a CELL more, and less", square().then(x -> x.cell(0, 1)).then(x -> x.cell(0, 0)), false);
        laid("3 CELLS more", square().then(x -> x.fill(14, 22, 1)), false);
        laid("3 CELLS less", square().then(x -> x.fill(20, 35, 0)), false);
        laid("3 none", square().then(x -> x.fill(0, 35, 0)), false);
        laid("9 c", square().then(x -> Check.read(x, "c00")), false);
        laid("9 c twice", square().then(x -> Check.read(x, "c00;c00")), false);
        laid("9 f", square().then(x -> Check.read(x, "f2225")), false);
        laid("9 e", square().then(x -> Check.read(x, "e3333")), false);
        laid("9 m", Scenes.cells(13, 14).then(x -> x.lay(0)).then(x -> Check.read(x, "m")), false);
    }

    private static void itStaysIfNothingChanges() {
        laid("2 as it was, in", square().then(x -> x.cell(14, 1)), true);
        laid("2 as it was, not in", square().then(x -> x.cell(0, 0)), true);
        laid("3 none changes, in", square().then(x -> x.fill(14, 21, 1)), true);
        laid("3 none changes, not in", square().then(x -> x.fill(0, 11, 0)), true);
        laid("9 f", square().then(x -> Check.read(x, "f2233")), true);
        laid("9 e", square().then(x -> Check.read(x, "e0015")), true);
        laid("9 m of its own mirror's", square().then(x -> Check.read(x, "m")), true);
        laid("9 a FAULT", square().then(x -> Check.read(x, "c00;")), true);
        laid("9 a CLAUSE refused", square().then(x -> Check.read(x, "c66")), true);
        laid("9 w", square().then(x -> Check.read(x, "w00r")), true);
        laid("31 an IMAGE", square().then(RegionWords::image), true);
    }

    private static void undoneItIsLaidAgain() {
        Setting imaged = square().then(x -> x.turn(24)).then(RegionWords::image);
        laid("32 undone", imaged.then(x -> x.fill(0, 35, 1)).then(RegionWords::undo), true);
        C.due("32 as it was", imaged.then(x -> x.lay(0)).then(RegionWords::undo).made().told(7), 1);
        Setting none = Scenes.cells(14, 15, 20, 21).then(RegionWords::image);
        laid("32 none was", none.then(x -> x.lay(0)).then(RegionWords::undo), false);
    }

    private static void leastIsGreatestIfThereIsOne() {
        for (int cell = 0; cell < 36; cell++) {
            for (int other : new int[] {cell + 1, cell + 6}) {
                if (other > 35 || other == cell + 1 && other % 6 == 0) {
                    continue;
                }
                for (int which = 0; which < 2; which++) {
                    RegionWords x = Check.with(cell, other);
                    C.due("4 RANK of a two", x.lay(which), 0);
                    C.due("11 RANK of GREATEST", x.told(8), 0);
                    C.due("10 the other one of " + cell, x.of(cell, 2), other);
                    C.due("10 the other one of " + other, x.of(other, 2), cell);
                }
            }
        }
    }

    private static void leastAndGreatestOfASquare() {
        for (int cell = 0; cell < 29; cell++) {
            if (cell % 6 == 5) {
                continue;
            }
            boolean black = (cell / 6 + cell % 6) % 2 == 0;
            RegionWords x = Check.block(cell, cell + 7);
            C.due("4 LEAST", x.lay(0), 0);
            C.due("4 LEAST of " + cell, x.of(cell, 2), black ? cell + 6 : cell + 1);
            C.due("4 GREATEST", x.lay(1), 1);
            C.due("4 GREATEST of " + cell, x.of(cell, 2), black ? cell + 1 : cell + 6);
        }
    }

    /** Round the middle in squares; of LEAST the first CELL's two is a column. */
    private static void leastAndGreatestOfAll() {
        int[] least = {
            6, 2, 1, 4, 3, 11, 0, 13, 9, 8, 16, 5, 18, 7, 20, 21, 10, 23, 12, 25, 14, 15, 28, 17, 30, 19, 27, 26, 22, 35,
            24, 32, 31, 34, 33, 29};
        RegionWords x = Check.block(0, 35);
        C.due("4 LEAST of all", x.lay(0), 0);
        for (int cell = 0; cell < 36; cell++) {
            C.due("4 LEAST, CELL " + cell, x.of(cell, 2), least[cell]);
        }
        C.due("4 GREATEST of all", x.lay(1), 35);
        for (int cell = 0; cell < 36; cell++) {
            int turned = least[cell % 6 * 6 + cell / 6];
            C.due("4 GREATEST, CELL " + cell, x.of(cell, 2), turned % 6 * 6 + turned / 6);
        }
    }

    private static void eachCellIsInOneTwo() {
        for (int which = 0; which < 2; which++) {
            RegionWords x = Check.block(0, 35);
            x.lay(which);
            for (int cell = 0; cell < 36; cell++) {
                int mate = x.of(cell, 2);
                C.due("10 of the other one, " + cell, x.of(mate, 2), cell);
                C.due("10 BLACK and WHITE, " + cell, x.of(cell, 1) + x.of(mate, 1), 1);
            }
        }
    }

    private static void turnAtTheFirstAndTheLast() {
        for (int vertex : new int[] {8, 12, 36, 40, 24}) {
            int cell = (vertex / 7 - 1) * 6 + vertex % 7 - 1;
            boolean black = (vertex / 7 + vertex % 7) % 2 == 0;
            RegionWords x = Check.block(cell, cell + 7);
            x.lay(0);
            C.due("5 at " + vertex, x.turn(vertex), 1);
            C.due("5 in rows or columns, at " + vertex, x.of(cell, 2), black ? cell + 1 : cell + 6);
            C.due("5 the others, at " + vertex, x.of(cell + 7, 2), black ? cell + 6 : cell + 1);
        }
    }

    private static void turnThereAndBack() {
        RegionWords x = Check.block(0, 35);
        x.lay(1);
        for (int i = 0; i < 6; i++) {
            C.due("5 there", x.turn(24), 34);
            C.due("5 back", x.turn(24), 35);
        }
        x.lay(0);
        for (int i = 0; i < 6; i++) {
            C.due("5 there", x.turn(24), 1);
            C.due("5 back", x.turn(24), 0);
        }
    }

    private static void turnOnlyOfTwoTwos() {
        RegionWords x = Check.block(0, 8);
        x.lay(0);
        C.due("5 three twos", x.turn(8), -3);
        C.due("5 two twos", x.turn(9), 1);
        C.due("5 now two twos here, too", x.turn(8), 2);
        C.due("5 and now three there", x.turn(9), -3);
    }

    private static void turnOfThreeCells() {
        RegionWords x = Check.with(7, 8, 14, 20);
        C.due("5 it is laid", x.lay(0), 0);
        C.due("5 three CELLS round it", x.turn(16), -3);
        C.due("5 two CELLS round it", x.turn(9), -3);
        C.due("5 a CELL round it", x.turn(8), -3);
        C.due("5 no CELL round it", x.turn(40), -3);
    }

    /** Each TURN that goes up does so by one, till none does. */
    private static void rankFromLeastToGreatest() {
        RegionWords x = Check.block(0, 21);
        int greatest = x.told(8);
        C.due("11 RANK of GREATEST", greatest, 10);
        int rank = x.lay(0);
        for (int i = 0; i < 40; i++) {
            int vertex = (i % 9 / 3 + 1) * 7 + i % 3 + 1;
            int then = x.turn(vertex);
            if (then >= 0 && then != rank + 1) {
                C.due("5 back", then, rank - 1);
                then = x.turn(vertex);
                C.due("5 up again", then, rank);
            } else if (then >= 0) {
                rank = then;
            }
            C.due("11 RANK", x.told(7), rank);
        }
        C.due("11 RANK of GREATEST is reached", rank, greatest);
    }

    /** An UP STEP over a two goes down by 3, any other one up by 1. */
    private static void heightsOfATwo() {
        RegionWords x = Check.with(0, 1);
        x.lay(0);
        int[] heights = {1000, 999, 1000, 1001, 1002, 1001};
        int[] vertices = {0, 1, 2, 7, 8, 9};
        for (int i = 0; i < 6; i++) {
            for (int what = 0; what < 4; what++) {
                C.due("13 HEIGHT of " + vertices[i] + ", " + what, x.height(vertices[i], what), heights[i]);
            }
        }
    }

    private static void heightsByTheTilingAreOfTheRegion() {
        for (int which = 0; which < 2; which++) {
            RegionWords x = Check.block(7, 28);
            x.lay(which);
            for (int vertex = 0; vertex < 49; vertex++) {
                boolean of = vertex / 7 >= 1 && vertex / 7 <= 5 && vertex % 7 >= 1 && vertex % 7 <= 5;
                int due = of ? x.height(vertex, which + 1) : -5;
                C.due("13 LEAST's are LOW, GREATEST's HIGH, " + vertex, x.height(vertex, 3), due);
            }
        }
    }

    private static void layAgain() {
        RegionWords x = Check.block(0, 35);
        for (int i = 0; i < 4; i++) {
            C.due("4 LEAST", x.lay(0), 0);
            C.due("4 LEAST again", x.lay(0), 0);
            C.due("4 GREATEST", x.lay(1), 35);
            C.due("4 GREATEST again", x.lay(1), 35);
        }
    }
}
