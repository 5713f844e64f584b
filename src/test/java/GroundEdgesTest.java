/** The ground, the region, its WORD and HEIGHTS at their bounds: promises 1 to 3, 10 to 15. */
public final class GroundEdgesTest {
    private static final Check C = new Check("GroundEdgesTest");
    /** Of all regions one whose WORD is as long as can be: it meets each VERTEX but 48. */
    private static final int[] COMB =
        {0, 1, 2, 3, 4, 5, 6, 12, 13, 14, 15, 16, 17, 18, 24, 25, 26, 27, 28, 29, 30, 32, 34};
    private static final String COMB_WORD = "rrrrrrdllllldrrrrrdllllldrrrrrdldluldluldluuuuuu";

    public static void main(String[] args) {
        constants();
        aNewObjectHasNothing();
        theLastOf512Calls();
        cellsAre0To35();
        rowIsCutAndColumnModulo();
        verticesAre0To48();
        blackIsEven();
        whatLiesBeyondHasAColour();
        fillOfOneCell();
        fillOfOneRowOrColumn();
        fillOfAll();
        fillOfNoneMore();
        simpleHasCells();
        simpleHangsTogetherBySides();
        theOthersHangTogetherBySides();
        theOthersHangTogetherByWhatLiesBeyond();
        wordBeginsAtTheLeastCell();
        wordOfFourSteps();
        wordOfTwentyFourSteps();
        wordOfFortyEightSteps();
        wordEndsWhereItBegins();
        heightsTogetherOfFewestAndMost();
        heightOfTheFirstAndTheLast();
        farOfNoStep();
        farGoesByCornersToo();
        tilableJustNot();
        edgesOfNoneAndMost();
        centreOfOneAndAll();
        C.end();
    }

    private static void constants() {
        C.due("NONE", RegionWords.NONE, -1);
        C.due("BAD", RegionWords.BAD, -2);
        C.due("STATE", RegionWords.STATE, -3);
        C.due("FULL", RegionWords.FULL, -4);
        C.due("NO", RegionWords.NO, -9223372036854775808L);
    }

    private static void aNewObjectHasNothing() {
        RegionWords x = new RegionWords();
        int[] told = {0, 0, 0, 0, 0, -5, -5, -5, -5};
        for (int what = 0; what < 9; what++) {
            C.due("1 told(" + what + ")", x.told(what), told[what]);
        }
        int[] walked = {0, 0, 0, 1, 0, 1000};
        for (int what = 0; what < 6; what++) {
            C.due("1 walked(" + what + ")", x.walked(what), walked[what]);
        }
        for (int what = 0; what < 4; what++) {
            C.due("1 count(" + what + ")", x.count(what), 0);
        }
        for (int tape = 0; tape < 6; tape++) {
            C.due("1 judge(" + tape + ", 0)", x.judge(tape, 0), 100);
            C.due("1 item(" + tape + ", 0, 1)", x.item(tape, 0, 1), -11);
        }
        for (int cell = 0; cell < 36; cell++) {
            C.due("1 of(" + cell + ", 0)", x.of(cell, 0), 0);
        }
        C.due("1 looked()", x.looked(), -5);
        C.due("1 after(0)", x.after(0), 0);
        C.due("1 undo()", x.undo(), -3);
        C.due("1 image()", x.image(), 0);
    }

    private static void theLastOf512Calls() {
        RegionWords x = new RegionWords();
        for (int i = 0; i < 510; i++) {
            x.cell(i % 36, i / 36 % 2);
        }
        C.due("2 the 511th call", x.fill(0, 35, 1), 36);
        C.due("4 the 512th call", x.lay(1), 35);
    }

    private static void cellsAre0To35() {
        for (int cell = 0; cell < 36; cell++) {
            RegionWords x = new RegionWords();
            C.due("2 it wasn't", x.cell(cell, 0), 0);
            C.due("2 it wasn't", x.cell(cell, 1), 0);
            C.due("2 it was", x.cell(cell, 1), 1);
            C.due("2 one", x.told(0), 1);
            for (int other = 0; other < 36; other++) {
                C.due("2 just that, " + cell + " " + other, x.of(other, 0), other == cell ? 1 : 0);
            }
            C.due("2 it was", x.cell(cell, 0), 1);
            C.due("2 it wasn't", x.cell(cell, 0), 0);
            C.due("2 none", x.told(0), 0);
        }
    }

    private static void rowIsCutAndColumnModulo() {
        for (int cell = 0; cell < 36; cell++) {
            RegionWords x = Check.with(cell);
            C.due("15 row of " + cell, x.centre(0), Float.floatToIntBits(cell / 6 + 0.5f));
            C.due("15 column of " + cell, x.centre(1), Float.floatToIntBits(cell % 6 + 0.5f));
        }
    }

    private static void verticesAre0To48() {
        for (int cell = 0; cell < 36; cell++) {
            RegionWords x = Check.with(cell);
            for (int vertex = 0; vertex < 49; vertex++) {
                int down = vertex / 7 - cell / 6;
                int right = vertex % 7 - cell % 6;
                boolean of = (down == 0 || down == 1) && (right == 0 || right == 1);
                C.due("14 VERTEX " + vertex + " of CELL " + cell, x.far(vertex, vertex), of ? 0 : -5);
            }
        }
    }

    private static void blackIsEven() {
        RegionWords x = new RegionWords();
        for (int cell = 0; cell < 36; cell++) {
            C.due("10 BLACK " + cell, x.of(cell, 1), (cell / 6 + cell % 6) % 2 == 0 ? 1 : 0);
            C.due("11 BLACK ones, " + cell, Check.with(cell).told(1), (cell / 6 + cell % 6) % 2 == 0 ? 1 : 0);
        }
        C.due("11 of all", Check.block(0, 35).told(1), 18);
    }

    /** Round the ground, as the clock goes: what is on the left lies beyond. Then back: it is a CELL. */
    private static void whatLiesBeyondHasAColour() {
        RegionWords x = new RegionWords();
        int[] heights = {-1, 0, -1, 0, -1, 0, 1, 0, 1, 0, 1, 0, -1, 0, -1, 0, -1, 0, 1, 0, 1, 0, 1, 0};
        for (int i = 0; i < 24; i++) {
            x.walk(i / 6);
            C.due("16 beyond, STEP " + i, x.walked(5), 1000 + heights[i]);
        }
        x.begin(0);
        int[] back = {1, 0, 1, 0, 1, 0, -1, 0, -1, 0, -1, 0, 1, 0, 1, 0, 1, 0, -1, 0, -1, 0, -1, 0};
        int[] ways = {1, 0, 3, 2};
        for (int i = 0; i < 24; i++) {
            x.walk(ways[i / 6]);
            C.due("16 by CELLS, STEP " + i, x.walked(5), 1000 + back[i]);
        }
    }

    private static void fillOfOneCell() {
        for (int cell = 0; cell < 36; cell++) {
            RegionWords x = new RegionWords();
            C.due("3 one", x.fill(cell, cell, 1), 1);
            C.due("3 that one", x.of(cell, 0), 1);
            C.due("3 none", x.fill(cell, cell, 0), 0);
        }
    }

    private static void fillOfOneRowOrColumn() {
        for (int i = 0; i < 6; i++) {
            RegionWords row = Check.block(6 * i, 6 * i + 5);
            RegionWords column = Check.block(i, 30 + i);
            for (int cell = 0; cell < 36; cell++) {
                C.due("3 row " + i + ", " + cell, row.of(cell, 0), cell / 6 == i ? 1 : 0);
                C.due("3 column " + i + ", " + cell, column.of(cell, 0), cell % 6 == i ? 1 : 0);
            }
        }
    }

    private static void fillOfAll() {
        RegionWords x = new RegionWords();
        C.due("3 all", x.fill(0, 35, 1), 36);
        C.due("3 all again", x.fill(0, 35, 1), 36);
        C.due("3 all but those inside", x.fill(7, 28, 0), 20);
        C.due("3 none", x.fill(0, 35, 0), 0);
        C.due("3 none again", x.fill(0, 35, 0), 0);
    }

    private static void fillOfNoneMore() {
        RegionWords x = Check.with(7, 8);
        C.due("3 both are", x.fill(7, 8, 1), 2);
        C.due("3 others aren't", x.fill(21, 35, 0), 2);
        C.due("3 one of them", x.fill(0, 7, 0), 1);
        C.due("3 three more", x.fill(7, 14, 1), 4);
    }

    private static void simple(String name, int is, int... cells) {
        C.due("11 " + name + ", SIMPLE", Check.with(cells).told(3), is);
    }

    private static void simpleHasCells() {
        simple("none", 0);
        for (int cell = 0; cell < 36; cell++) {
            simple("one, " + cell, 1, cell);
        }
    }

    private static void simpleHangsTogetherBySides() {
        simple("by a side", 1, 0, 1);
        simple("by a side, below", 1, 0, 6);
        simple("by a side, last", 1, 34, 35);
        simple("by a corner", 0, 0, 7);
        simple("by the other corner", 0, 1, 6);
        simple("last of a row and first of the next", 0, 5, 6);
        simple("last of a row and first of the same", 0, 0, 5);
        simple("first and last row", 0, 0, 30);
        simple("first and last", 0, 0, 35);
        simple("apart by one", 0, 14, 16);
        for (int cell = 0; cell < 30; cell++) {
            simple("below one another, " + cell, 1, cell, cell + 6);
            simple("beside one another, unless a row ends, " + cell, cell % 6 == 5 ? 0 : 1, cell, cell + 1);
        }
    }

    private static void theOthersHangTogetherBySides() {
        for (int cell = 0; cell < 36; cell++) {
            boolean inside = cell / 6 % 5 != 0 && cell % 6 % 5 != 0;
            RegionWords x = Check.block(0, 35);
            x.cell(cell, 0);
            C.due("11 all but " + cell + ", SIMPLE", x.told(3), inside ? 0 : 1);
        }
        simple("a hole", 0, 0, 1, 2, 6, 8, 12, 13, 14);
        simple("a hole, open by a corner", 0, 0, 1, 2, 6, 8, 12, 13);
        simple("a hole, open by a side", 1, 0, 1, 2, 6, 8, 12, 14);
        RegionWords x = Check.block(0, 35);
        x.fill(7, 28, 0);
        C.due("11 a hole of sixteen, SIMPLE", x.told(3), 0);
        x.cell(35, 0);
        C.due("11 it is open by a corner, SIMPLE", x.told(3), 0);
        x.cell(34, 0);
        C.due("11 it is open by a side, SIMPLE", x.told(3), 1);
    }

    private static void theOthersHangTogetherByWhatLiesBeyond() {
        simple("round the first corner", 1, 1, 7, 6);
        simple("round the last corner", 1, 29, 28, 34);
        C.due("11 no others, SIMPLE", Check.block(0, 35).told(3), 1);
        for (int i = 1; i < 5; i++) {
            C.due("11 others on both sides of row " + i, Check.block(6 * i, 6 * i + 5).told(3), 1);
            C.due("11 others on both sides of column " + i, Check.block(i, 30 + i).told(3), 1);
        }
        simple("a cross", 1, 2, 8, 14, 20, 26, 32, 12, 13, 15, 16, 17);
    }

    private static void word(String name, RegionWords x, String word) {
        C.due("11 " + name + ", STEPS", x.told(5), word.length());
        for (int i = 0; i < word.length(); i++) {
            C.due("12 " + name + ", STEP " + i, x.word(i), "rdlu".indexOf(word.charAt(i)));
        }
        C.due("12 " + name + ", there are not as many", x.word(word.length()), -5);
    }

    private static void wordBeginsAtTheLeastCell() {
        word("least is not leftmost", Check.with(3, 6, 7, 8, 9), "rddllllurrru");
        C.due("11 a WHITE one and three of its like", Check.with(1, 6, 7, 8).told(6), 1008);
        RegionWords x = Check.with(1, 7, 6, 12);
        C.due("13 from the upper left VERTEX of CELL 1", x.height(1, 0), 1000);
        word("from CELL 1", x, "rddldluuru");
    }

    private static void wordOfFourSteps() {
        for (int cell = 0; cell < 36; cell++) {
            word("CELL " + cell, Check.with(cell), "rdlu");
        }
    }

    private static void wordOfTwentyFourSteps() {
        word("all", Check.block(0, 35), "rrrrrrddddddlllllluuuuuu");
    }

    private static void wordOfFortyEightSteps() {
        RegionWords x = Check.with(COMB);
        C.due("11 the comb is SIMPLE", x.told(3), 1);
        word("the comb", x, COMB_WORD);
    }

    private static void wordEndsWhereItBegins() {
        for (int from = 0; from < 36; from += 7) {
            RegionWords x = Check.block(from, 35);
            Scenes.walk(x, from / 6 * 7 + from % 6, "");
            for (int i = 0; i < x.told(5); i++) {
                x.walk(x.word(i));
            }
            C.due("12 as many", x.walked(0), 4 * (6 - from / 7));
            C.due("12 till that VERTEX", x.walked(3), 1);
            C.due("12 round it", x.winds(35), 101);
        }
    }

    /** Each BLACK one takes 4, each other one adds 4. */
    private static void heightsTogetherOfFewestAndMost() {
        C.due("11 a BLACK one", Check.with(35).told(6), 996);
        C.due("11 a WHITE one", Check.with(30).told(6), 1004);
        C.due("11 one each", Check.with(29, 35).told(6), 1000);
        C.due("11 four round a BLACK one", Check.with(7, 1, 6, 8, 13).told(6), 1012);
        C.due("11 four round a WHITE one", Check.with(8, 2, 7, 9, 14).told(6), 988);
        C.due("11 the comb's BLACK ones, of 23", Check.with(COMB).told(1), 9);
        C.due("11 the comb", Check.with(COMB).told(6), 1020);
        C.due("11 all", Check.block(0, 35).told(6), 1000);
    }

    private static void heightOfTheFirstAndTheLast() {
        RegionWords x = Check.with(28, 29, 34, 35);
        int[] vertices = {32, 33, 34, 41, 48, 47, 46, 39};
        int[] heights = {0, -1, 0, 1, 0, -1, 0, 1};
        for (int i = 0; i < 8; i++) {
            C.due("13 on WORD, STEP " + i, x.height(vertices[i], 0), 1000 + heights[i]);
        }
        C.due("13 not on it, but inside", x.height(40, 0), -5);
        C.due("13 LOW inside", x.height(40, 1), 998);
        C.due("13 HIGH inside", x.height(40, 2), 1002);
    }

    private static void farOfNoStep() {
        RegionWords x = Check.block(0, 35);
        for (int vertex = 0; vertex < 49; vertex++) {
            C.due("14 from " + vertex + " to itself", x.far(vertex, vertex), 0);
        }
        C.due("14 from the first to the last", x.far(0, 48), 12);
        C.due("14 and back", x.far(48, 0), 12);
    }

    private static void farGoesByCornersToo() {
        C.due("14 by a corner", Check.with(0, 7).far(0, 16), 4);
        C.due("14 not over what lies between", Check.with(0, 14).far(0, 24), -5);
        C.due("14 on the edge of THE GROUND", Check.with(5).far(5, 6), 1);
        C.due("14 back on the edge of THE GROUND", Check.with(5).far(6, 5), 3);
    }

    /** Two BLACK ones with but one WHITE neighbour between them, and as many of each. */
    private static void tilableJustNot() {
        C.due("11 three in a row and one below the middle", Check.with(6, 7, 8, 13).told(4), 0);
        C.due("11 two", Check.with(6, 7).told(4), 1);
        C.due("11 the fork CLOSES", Check.with(Scenes.FORK_CELLS).told(6), 1000);
        C.due("11 the fork", Check.with(Scenes.FORK_CELLS).told(4), 0);
        C.due("11 the fork, its teeth beside one another", Check.with(1, 2, 6, 7, 8, 9, 10, 11).told(4), 1);
    }

    private static void edgesOfNoneAndMost() {
        C.due("11 EDGES of none", new RegionWords().told(2), 0);
        C.due("11 EDGES of one", Check.with(35).told(2), 4);
        C.due("11 EDGES over a row's end", Check.with(5, 6).told(2), 8);
        C.due("11 EDGES over all", Check.block(0, 35).told(2), 24);
        RegionWords board = new RegionWords();
        for (int cell = 0; cell < 36; cell++) {
            board.cell(cell, board.of(cell, 1));
        }
        C.due("11 EDGES of all BLACK ones", board.told(2), 72);
        C.due("11 EDGES of a ring", Check.with(0, 1, 2, 6, 8, 12, 13, 14).told(2), 16);
    }

    private static void centreOfOneAndAll() {
        RegionWords x = Check.block(0, 35);
        C.due("15 rows of all", x.centre(0), Float.floatToIntBits(3.0f));
        C.due("15 columns of all", x.centre(1), Float.floatToIntBits(3.0f));
        C.due("15 rows of the first", Check.with(0).centre(0), Float.floatToIntBits(0.5f));
        C.due("15 columns of the last", Check.with(35).centre(1), Float.floatToIntBits(5.5f));
        x.cell(0, 0);
        C.due("15 all but one, rounded once", x.centre(0), Float.floatToIntBits(107.5f / 35.0f));
    }
}
