/** STONES, COVERINGS, what bars them, SEEN, ODDS, MEAN at their bounds: promises 18 to 25. */
public final class StonesEdgesTest {
    private static final Check C = new Check("StonesEdgesTest");
    private static final long NO = Long.MIN_VALUE;
    private static final int ONE = Float.floatToIntBits(1.0f);
    /** Of each KIND and FORM rows and columns of the CELLS behind the first one. */
    private static final int[][][] FORMS = {
        {{0, 1}, {1, 0}},
        {{0, 1, 0, 2}, {1, 0, 2, 0}},
        {{0, 1, 1, 0}, {0, 1, 1, 1}, {1, 0, 1, 1}, {1, -1, 1, 0}}};

    public static void main(String[] args) {
        withoutCellsThereIsOneCovering();
        withoutCoveringThereIsNoFirst();
        aStoneAnywhere();
        noStoneOverTheEnds();
        firstIsTheFirst();
        weightOfNone();
        weightIsAddedUpAsTheyCome();
        mostCoverings();
        barredByHowMany();
        barredByColours();
        barredByBothColoursOfBars();
        barredByHeights();
        barredByNothing();
        seenIsFourAtMost();
        seenIs0To144();
        seenIsEmptied();
        fitsOfNothingSeen();
        fitsAllOfSeen();
        fitsTheFirstAndTheLast();
        fitsIfItWouldBeEmptyOrFull();
        oddsOfNoneAndAll();
        oddsInLowestTerms();
        oddsOfEachForm();
        meanOfNearNothing();
        meanOfWholeNumbers();
        meanOfSteepRegions();
        C.end();
    }

    private static void withoutCellsThereIsOneCovering() {
        RegionWords x = new RegionWords();
        for (int kind = 0; kind < 3; kind++) {
            C.due("18 just one", x.coverings(kind), 1);
            C.due("19 no STONE", x.first(kind, 0), -5);
            C.due("20 1.0f", x.weight(kind), ONE);
            C.due("21 not barred", x.barred(kind), -5);
            C.due("24 in none", x.odds(kind, 35, 1, 0), 0);
            C.due("24 of one", x.odds(kind, 35, 1, 1), 1);
        }
    }

    private static void withoutCoveringThereIsNoFirst() {
        for (int cell = 0; cell < 36; cell++) {
            RegionWords x = Check.with(cell);
            for (int kind = 0; kind < 3; kind++) {
                C.due("18 none", x.coverings(kind), 0);
                C.due("19 none", x.first(kind, cell), -5);
                C.due("20 0.0f", x.weight(kind), 0);
                C.due("24 none", x.odds(kind, cell, 0, 0), NO);
                C.due("24 none, below", x.odds(kind, cell, 0, 1), NO);
            }
        }
    }

    /** The CELLS of a STONE, and those that would be of it, were its rows one long row; in: it is on THE GROUND. */
    private static boolean stone(int kind, int form, int cell, int[] cells) {
        boolean in = true;
        cells[0] = cell;
        int[] moves = FORMS[kind][form];
        for (int i = 0; i < moves.length; i += 2) {
            int row = cell / 6 + moves[i];
            int column = cell % 6 + moves[i + 1];
            in = in && row < 6 && column < 6 && column >= 0;
            cells[1 + i / 2] = row * 6 + column;
        }
        return in;
    }

    private static void aStoneAnywhere() {
        for (int kind = 0; kind < 3; kind++) {
            int[] cells = new int[kind == 0 ? 2 : 3];
            for (int form = 0; form < FORMS[kind].length; form++) {
                for (int cell = 0; cell < 36; cell++) {
                    if (stone(kind, form, cell, cells)) {
                        oneStone(kind, form, cells);
                    }
                }
            }
        }
    }

    private static void oneStone(int kind, int form, int[] cells) {
        RegionWords x = Check.with(cells);
        String name = " KIND " + kind + " FORM " + form + " at " + cells[0];
        for (int other = 0; other < 3; other++) {
            C.due("18" + name + " by " + other, x.coverings(other), other == kind ? 1 : 0);
        }
        boolean light = form == 0 || form == 3;
        C.due("20" + name, x.weight(kind), Float.floatToIntBits(light ? 0.75f : 1.25f));
        for (int cell = 0; cell < 36; cell++) {
            boolean in = x.of(cell, 0) == 1;
            C.due("19" + name + ", " + cell, x.first(kind, cell), in ? form : -5);
            C.due("24" + name + ", " + cell, x.odds(kind, cell, form, 0), in ? 1 : 0);
        }
    }

    private static void noStoneOverTheEnds() {
        for (int kind = 0; kind < 3; kind++) {
            int[] cells = new int[kind == 0 ? 2 : 3];
            for (int form = 0; form < FORMS[kind].length; form++) {
                for (int cell = 0; cell < 36; cell++) {
                    boolean in = stone(kind, form, cell, cells);
                    RegionWords x = Check.with(cells);
                    if (!in && x.told(0) == cells.length) {
                        C.due("18 over the ends, " + kind + " " + form + " " + cell, x.coverings(kind), 0);
                    }
                }
            }
        }
    }

    private static void firstIsTheFirst() {
        RegionWords all = Check.block(0, 35);
        for (int cell = 0; cell < 36; cell++) {
            C.due("19 TWOS", all.first(0, cell), 0);
            C.due("19 BARS", all.first(1, cell), 0);
        }
        RegionWords x = Check.block(0, 13);
        int[] ells = {0, 0, 0, 3, 3, 3};
        int[] cells = {0, 1, 6, 7, 12, 13};
        for (int i = 0; i < 6; i++) {
            C.due("19 ELLS, FORM 0 ahead of FORM 2", x.first(2, cells[i]), ells[i]);
            C.due("19 TWOS, FORM 0 ahead of FORM 1", x.first(0, cells[i]), 0);
            C.due("19 BARS, no FORM 0", x.first(1, cells[i]), 1);
        }
    }

    private static void weightOfNone() {
        C.due("20 no COVERING", Check.with(0, 7).weight(0), 0);
        C.due("20 no COVERING, of many CELLS", Check.block(0, 28).weight(0), 0);
        C.due("20 no CELLS", new RegionWords().weight(0), ONE);
    }

    /** Sums of so many that are rounded: another order would come to other bits. */
    private static void weightIsAddedUpAsTheyCome() {
        RegionWords x = Check.block(0, 35);
        C.due("20 all by TWOS", x.weight(0), 1174205278);
        C.due("20 all by ELLS", x.weight(2), 1129671466);
        float rows = 0.75f * 0.75f * 0.75f * 0.75f;
        float mixed = 0.75f * 0.75f * 1.25f * 1.25f;
        float columns = 1.25f * 1.25f * 1.25f * 1.25f;
        float due = rows + mixed + mixed + mixed + columns;
        C.due("20 five COVERINGS", Check.block(0, 9).weight(0), Float.floatToIntBits(due));
    }

    private static void mostCoverings() {
        RegionWords x = Check.block(0, 35);
        C.due("18 TWOS", x.coverings(0), 6728);
        C.due("18 BARS", x.coverings(1), 64);
        C.due("18 ELLS", x.coverings(2), 162);
    }

    private static void barred(String name, int kind, int due, int... cells) {
        C.due("21 " + name + ", KIND " + kind, Check.with(cells).barred(kind), due);
    }

    private static void barredByHowMany() {
        RegionWords x = new RegionWords();
        for (int cell = 0; cell < 36; cell++) {
            x.cell(cell, 1);
            boolean even = cell % 2 == 1;
            boolean threes = cell % 3 == 2;
            C.due("21 TWOS of " + (cell + 1), x.barred(0) == 0 ? 0 : 1, even ? 1 : 0);
            C.due("21 BARS of " + (cell + 1), x.barred(1) == 0 ? 0 : 1, threes ? 1 : 0);
            C.due("21 ELLS of " + (cell + 1), x.barred(2), threes ? -5 : 0);
        }
    }

    private static void barredByColours() {
        barred("two BLACK", 0, 1, 0, 2);
        barred("two WHITE", 0, 1, 1, 3);
        barred("one each", 0, -5, 0, 5);
        barred("one BLACK too many", 0, 1, 0, 7, 14, 1);
        barred("not SIMPLE, and colours", 0, 1, 0, 7);
        barred("SIMPLE, and colours ahead of heights", 0, 1, 6, 7, 8, 13);
    }

    /** Where they bar it, the other colours are as many. */
    private static void barredByBothColoursOfBars() {
        barred("both are as many", 1, -5, 0, 1, 2);
        barred("both are as many, apart", 1, -5, 0, 4, 23);
        barred("none is 0, 1", 1, 1, 2, 10, 12);
        barred("none is 0, 2", 1, 1, 4, 9, 17);
        barred("none is 1, 2", 1, 1, 11, 21, 31);
        barred("none is 1 alone", 1, 1, 0, 13, 15);
        barred("none is 0, 1, of the second colours", 1, 1, 3, 10, 14);
        barred("none is 0, 2, of the second colours", 1, 1, 1, 15, 29);
        barred("none is 1, 2, of the second colours", 1, 1, 5, 13, 27);
        barred("none is 2 alone, of the second colours", 1, 1, 16, 22, 33);
    }

    private static void barredByHeights() {
        barred("the fork", 0, 2, Scenes.FORK_CELLS);
        barred("the fork and two apart: it isn't SIMPLE", 0, -5, 1, 4, 6, 7, 8, 9, 10, 11, 34, 35);
        barred("by heights BARS aren't", 1, 0, Scenes.FORK_CELLS);
        barred("TILABLE", 0, -5, 0, 1);
    }

    private static void barredByNothing() {
        for (int kind = 0; kind < 3; kind++) {
            C.due("21 no CELLS", new RegionWords().barred(kind), -5);
            C.due("21 all", Check.block(0, 35).barred(kind), -5);
        }
        barred("not SIMPLE, a hole", 0, -5, 0, 1, 2, 6, 8, 12, 13, 14);
        barred("ELLS have no colours", 2, -5, 0, 7, 14);
    }

    private static void seenIsFourAtMost() {
        RegionWords x = new RegionWords();
        for (int i = 0; i < 4; i++) {
            C.due("33 SEEN", x.count(0), i);
            C.due("22 one more", x.see(i % 3, i), i + 1);
        }
        C.due("22 FULL", x.see(0, 0), -4);
        C.due("33 SEEN", x.count(0), 4);
    }

    private static void seenIs0To144() {
        for (int what = 0; what < 3; what++) {
            RegionWords x = new RegionWords();
            C.due("22 0", x.see(what, 0), 1);
            C.due("22 144", x.see(what, 144), 2);
            C.due("22 -1", x.see(what, -1), -2);
            C.due("22 145", x.see(what, 145), -2);
            C.due("23 there is none such", x.fits(), 0);
        }
    }

    private static void seenIsEmptied() {
        for (int rest : new int[] {0, -1, 145, Integer.MIN_VALUE, Integer.MAX_VALUE}) {
            for (Setting setting : new Setting[] {Scenes.NEW, Scenes.LAID, Scenes.FULL}) {
                RegionWords x = setting.made();
                C.due("22 none then, rest " + rest, x.see(-1, rest), 0);
                C.due("33 SEEN", x.count(0), 0);
                C.due("23 nothing SEEN", x.fits(), (1L << 36) - 1);
                C.due("22 the first", x.see(0, 0), 1);
            }
        }
    }

    private static void fitsOfNothingSeen() {
        C.due("23 without CELLS", new RegionWords().fits(), (1L << 36) - 1);
        C.due("23 with some", Check.block(0, 14).fits(), (1L << 36) - 1);
        C.due("23 with all", Check.block(0, 35).fits(), (1L << 36) - 1);
    }

    private static void fitsAllOfSeen() {
        RegionWords x = Check.with(14);
        x.see(0, 2);
        C.due("23 another one", x.fits(), ((1L << 36) - 1) ^ 1L << 14);
        x.see(2, 6);
        long beside = 1L << 8 | 1L << 13 | 1L << 15 | 1L << 20;
        C.due("23 beside it", x.fits(), beside);
        x.see(1, 1);
        C.due("23 a WHITE one", x.fits(), beside);
        x.see(1, 2);
        C.due("23 the fourth can't be", x.fits(), 0);
    }

    private static void fitsTheFirstAndTheLast() {
        for (int cell = 0; cell < 36; cell++) {
            RegionWords x = Check.with(cell);
            x.see(0, 0);
            C.due("23 that one goes", x.fits(), 1L << cell);
            RegionWords y = Check.block(0, 35);
            y.cell(cell, 0);
            y.see(0, 36);
            C.due("23 that one comes", y.fits(), 1L << cell);
        }
    }

    private static void fitsIfItWouldBeEmptyOrFull() {
        RegionWords x = new RegionWords();
        x.see(0, 0);
        C.due("23 as it is is not by one", x.fits(), 0);
        x.see(-1, 0);
        x.see(2, 4);
        C.due("23 EDGES of one", x.fits(), (1L << 36) - 1);
        x = Check.with(0);
        x.see(2, 0);
        C.due("23 EDGES of none", x.fits(), 1);
        x = Check.block(0, 35);
        x.see(1, 17);
        C.due("23 a BLACK one less", Long.bitCount(x.fits()), 18);
    }

    private static void oddsOfNoneAndAll() {
        RegionWords x = Check.with(0, 1);
        C.due("24 surely", x.odds(0, 0, 0, 0), 1);
        C.due("24 of 1", x.odds(0, 0, 0, 1), 1);
        C.due("24 never", x.odds(0, 0, 1, 0), 0);
        C.due("24 of 1", x.odds(0, 0, 1, 1), 1);
        C.due("24 not in it", x.odds(0, 35, 0, 0), 0);
        C.due("24 of 1", x.odds(0, 35, 0, 1), 1);
    }

    private static void oddsInLowestTerms() {
        RegionWords x = Check.block(0, 35);
        for (int form = 0; form < 2; form++) {
            C.due("24 3364 of 6728", x.odds(0, 0, form, 0), 1);
            C.due("24 3364 of 6728, below", x.odds(0, 35, form, 1), 2);
        }
        RegionWords square = Check.block(7, 14);
        C.due("24 1 of 2", square.odds(0, 14, 1, 0), 1);
        C.due("24 1 of 2, below", square.odds(0, 14, 1, 1), 2);
        RegionWords five = Check.block(0, 9);
        C.due("24 2 of 5", five.odds(0, 0, 0, 0), 2);
        C.due("24 2 of 5, below", five.odds(0, 0, 0, 1), 5);
    }

    /** Two by six: its first six CELLS are two ELLS in two ways, FORMS 0 and 3, or 2 and 1. */
    private static void oddsOfEachForm() {
        RegionWords x = Check.block(0, 11);
        int[][] above = {{1, 0, 1, 0}, {1, 1, 0, 0}, {0, 1, 0, 1}, {1, 0, 1, 0}, {0, 0, 1, 1}, {0, 1, 0, 1}};
        int[] cells = {0, 1, 2, 6, 7, 8};
        for (int i = 0; i < 6; i++) {
            for (int form = 0; form < 4; form++) {
                C.due("24 CELL " + cells[i] + ", FORM " + form, x.odds(2, cells[i], form, 0), above[i][form]);
                C.due("24 below", x.odds(2, cells[i], form, 1), above[i][form] == 1 ? 2 : 1);
            }
        }
        for (int kind = 0; kind < 3; kind++) {
            int last = kind == 2 ? 3 : 1;
            C.due("24 the last FORM", x.odds(kind, 0, last, 1) == NO ? 0 : 1, 1);
            C.due("24 one further", x.odds(kind, 0, last + 1, 1), NO);
        }
    }

    private static long bits(double number) {
        return Double.doubleToLongBits(number);
    }

    private static void meanOfNearNothing() {
        C.due("25 a two, BLACK first", Check.with(0, 1).mean(), bits(0.5));
        C.due("25 a two, WHITE first", Check.with(1, 2).mean(), bits(-0.5));
        C.due("25 a two at the end", Check.with(34, 35).mean(), bits(-0.5));
        C.due("25 a square", Check.with(28, 29, 34, 35).mean(), bits(-2.0 / 9.0));
        C.due("25 all", Check.block(0, 35).mean(), -4614259503928742473L);
        C.due("25 just 0", Check.with(0, 1, 2, 3, 6, 7).mean(), 0);
    }

    private static void meanOfWholeNumbers() {
        C.due("25 -34 by 17", Check.with(10, 11, 16, 22, 23, 27, 28, 29).mean(), bits(-2.0));
        C.due("25 -28 by 28", Check.with(0, 1, 2, 6, 8, 12, 14, 20, 21, 22, 23, 27, 28, 29).mean(), bits(-1.0));
        C.due("25 17 by 17", Check.with(0, 1, 2, 3, 4, 5, 7, 8).mean(), bits(1.0));
        C.due("25 40 by 20", Check.with(6, 12, 13, 19, 20, 21, 25, 26, 27, 33).mean(), bits(2.0));
    }

    /** Long ways along an edge on which HEIGHTS go but up, or but down. */
    private static void meanOfSteepRegions() {
        RegionWords down = Check.with(
            1, 2, 4, 5, 6, 7, 11, 13, 14, 16, 17, 18, 19, 22, 23, 25, 26, 28, 29, 30, 31, 32, 33, 34);
        C.due("25 -415 by 47", down.mean(), bits(-415.0 / 47.0));
        RegionWords up = Check.with(
            0, 1, 4, 5, 7, 8, 10, 12, 13, 16, 19, 20, 22, 23, 24, 25, 29, 31, 32, 33, 34, 35);
        C.due("25 387 by 46", up.mean(), bits(387.0 / 46.0));
    }
}
