/** Promises 18 to 25: coverings by stones, what bars them, what is seen, odds, means. */
public final class StonesTest {
    private static final Check C = new Check("StonesTest");
    private static final int[] NO_KINDS = {-1, 3, Integer.MIN_VALUE, Integer.MAX_VALUE};
    private static final int[] FORK = {1, 4, 6, 7, 8, 9, 10, 11};
    private static final long NO = RegionWords.NO;

    public static void main(String[] args) {
        coverings();
        first();
        weight();
        barred();
        see();
        fits();
        odds();
        mean();
        C.end();
    }

    private static void kinds(String name, RegionWords x, int... dues) {
        for (int kind = 0; kind < 3; kind++) {
            C.due("18 " + name + " coverings(" + kind + ")", x.coverings(kind), dues[kind]);
        }
    }

    private static void coverings() {
        kinds("nothing", new RegionWords(), 1, 1, 1);
        kinds("one", Check.with(0), 0, 0, 0);
        kinds("a two", Check.with(0, 6), 1, 0, 0);
        kinds("no two over the row's end", Check.with(5, 6), 0, 0, 0);
        kinds("a bar", Check.with(3, 4, 5), 0, 1, 0);
        kinds("no bar over the row's end", Check.with(4, 5, 6), 0, 0, 0);
        kinds("no bar over the row's end", Check.with(5, 6, 7), 0, 0, 0);
        kinds("a bar down", Check.with(23, 29, 35), 0, 1, 0);
        kinds("no ell over the row's end", Check.with(5, 6, 11), 0, 0, 0);
        kinds("no ell over the row's end", Check.with(6, 11, 12), 0, 0, 0);
        kinds("ell 0", Check.with(0, 1, 6), 0, 0, 1);
        kinds("ell 1", Check.with(0, 1, 7), 0, 0, 1);
        kinds("ell 2", Check.with(0, 6, 7), 0, 0, 1);
        kinds("ell 3", Check.with(1, 6, 7), 0, 0, 1);
        kinds("two by two", Check.block(0, 7), 2, 0, 0);
        kinds("two by three", Check.block(0, 8), 3, 1, 2);
        kinds("three by two", Check.block(28, 35), 2, 0, 0);
        kinds("three by three", Check.block(0, 14), 0, 2, 0);
        kinds("four by four", Check.block(0, 21), 36, 0, 0);
        kinds("four by six", Check.block(0, 23), 281, 13, 18);
        kinds("two by six", Check.block(24, 35), 13, 1, 4);
        kinds("apart", Check.with(0, 1, 34, 35), 1, 0, 0);
        kinds("bars apart", Check.with(0, 1, 2, 17, 23, 29), 0, 1, 0);
        kinds("fork", Check.with(FORK), 0, 0, 0);
        for (int no : NO_KINDS) {
            C.due("18 coverings(" + no + ")", new RegionWords().coverings(no), -1);
        }
    }

    private static void firsts(String name, RegionWords x, int kind, int... dues) {
        for (int i = 0; i < dues.length; i++) {
            C.due("19 " + name + " first(" + kind + ", " + i + ")", x.first(kind, i), dues[i]);
        }
    }

    private static void first() {
        RegionWords x = Check.block(0, 8);
        firsts("twos", x, 0, 0, 0, 1, -5, -5, -5, 0, 0, 1, -5);
        firsts("bars", x, 1, 0, 0, 0, -5, -5, -5, 0, 0, 0, -5);
        firsts("ells", x, 2, 0, 0, 3, -5, -5, -5, 0, 3, 3, -5);
        firsts("three down", Check.block(0, 13), 1, 1, 1, -5, -5, -5, -5, 1, 1);
        firsts("ells down", Check.block(0, 13), 2, 0, 0, -5, -5, -5, -5, 0, 3, -5, -5, -5, -5, 3, 3);
        firsts("ell 1", Check.with(0, 1, 7), 2, 1, 1, -5, -5, -5, -5, -5, 1);
        firsts("ell 2", Check.with(0, 6, 7), 2, 2, -5, -5, -5, -5, -5, 2, 2);
        firsts("no covering", Check.block(0, 7), 1, -5, -5, -5);
        firsts("nothing", new RegionWords(), 2, -5, -5);
        for (int no : NO_KINDS) {
            C.due("19 no kind", x.first(no, 0), -1);
            C.due("19 no kind, no cell", x.first(no, 99), -1);
        }
        C.due("19 no cell", x.first(0, 36), -1);
        C.due("19 no cell", x.first(0, -1), -1);
    }

    private static void weight() {
        RegionWords x = Check.block(0, 8);
        C.due("20 twos", x.weight(0), Float.floatToIntBits(3.359375f));
        C.due("20 bars", x.weight(1), Float.floatToIntBits(0.5625f));
        C.due("20 ells", x.weight(2), Float.floatToIntBits(2.125f));
        C.due("20 nothing", new RegionWords().weight(2), Float.floatToIntBits(1.0f));
        C.due("20 no covering", Check.with(0).weight(0), 0);
        C.due("20 ell 0", Check.with(0, 1, 6).weight(2), Float.floatToIntBits(0.75f));
        C.due("20 ell 1", Check.with(0, 1, 7).weight(2), Float.floatToIntBits(1.25f));
        C.due("20 ell 2", Check.with(0, 6, 7).weight(2), Float.floatToIntBits(1.25f));
        C.due("20 ell 3", Check.with(1, 6, 7).weight(2), Float.floatToIntBits(0.75f));
        RegionWords all = Check.block(0, 35);
        C.due("20 all by twos, rounded as they come", all.weight(0), 1174205278);
        C.due("20 all by ells, rounded as they come", all.weight(2), 1129671466);
        C.due("20 below one", Check.with(0, 1, 12, 13, 24, 25, 3, 4, 15, 16, 27, 28).weight(0),
            Float.floatToIntBits(0.75f * 0.75f * 0.75f * 0.75f * 0.75f * 0.75f));
        for (int no : NO_KINDS) {
            C.due("20 no kind", x.weight(no), -1);
        }
    }

    private static void bars(String name, RegionWords x, int... dues) {
        for (int kind = 0; kind < 3; kind++) {
            C.due("21 " + name + " barred(" + kind + ")", x.barred(kind), dues[kind]);
        }
    }

    private static void barred() {
        bars("nothing", new RegionWords(), -5, -5, -5);
        bars("one", Check.with(0), 0, 0, 0);
        bars("a two", Check.with(0, 1), -5, 0, 0);
        bars("two black", Check.with(0, 2), 1, 0, 0);
        bars("two white, apart", Check.with(1, 3), 1, 0, 0);
        bars("black and white, apart", Check.with(0, 3), -5, 0, 0);
        bars("a bar", Check.with(0, 1, 2), 0, -5, -5);
        bars("by the first colours", Check.with(0, 1, 6), 0, 1, -5);
        bars("by the second colours", Check.with(0, 1, 7), 0, 1, -5);
        bars("fork", Check.with(FORK), 2, 0, 0);
        bars("all", Check.block(0, 35), -5, -5, -5);
        RegionWords torn = Check.block(0, 35);
        torn.cell(0, 0);
        torn.cell(35, 0);
        bars("two black ones less", torn, 1, 0, 0);
        RegionWords ring = Check.block(0, 14);
        ring.cell(7, 0);
        bars("ring", ring, -5, 0, 0);
        RegionWords forks = Check.with(FORK);
        forks.cell(30, 1);
        forks.cell(31, 1);
        bars("fork and a two: not simple", forks, -5, 0, 0);
        for (int no : NO_KINDS) {
            C.due("21 no kind", ring.barred(no), -1);
        }
    }

    private static void see() {
        RegionWords x = new RegionWords();
        C.due("22 none", x.see(-1, 999), 0);
        C.due("22 first", x.see(0, 0), 1);
        C.due("22 second", x.see(2, 144), 2);
        C.due("22 no what", x.see(3, 0), -1);
        C.due("22 no what", x.see(-2, 0), -1);
        C.due("22 no what, bad", x.see(3, 145), -1);
        C.due("22 bad", x.see(0, 145), -2);
        C.due("22 bad", x.see(0, -1), -2);
        C.due("22 two", x.count(0), 2);
        C.due("22 third", x.see(1, 1), 3);
        C.due("22 fourth", x.see(1, 1), 4);
        C.due("22 full", x.see(1, 1), -4);
        C.due("22 bad, full", x.see(1, 145), -2);
        C.due("22 no what, full", x.see(5, 1), -1);
        C.due("22 four", x.count(0), 4);
        C.due("22 none", x.see(-1, -7), 0);
        C.due("22 none", x.count(0), 0);
        C.due("22 first again", x.see(0, 1), 1);
    }

    private static void fits() {
        RegionWords x = Check.block(0, 7);
        C.due("23 all", x.fits(), (1L << 36) - 1);
        x.see(0, 3);
        C.due("23 one of four goes", x.fits(), 1L | 2L | 64L | 128L);
        x.see(1, 1);
        C.due("23 a black one goes", x.fits(), 1L | 128L);
        x.see(2, 7);
        C.due("23 edges are even", x.fits(), 0);
        x.see(-1, 0);
        x.see(2, 10);
        C.due("23 beside it", x.fits(), 1L << 2 | 1L << 8 | 1L << 12 | 1L << 13);
        x.see(1, 3);
        C.due("23 beside it, black", x.fits(), 1L << 2 | 1L << 12);
        x.see(-1, 0);
        x.see(2, 8);
        C.due("23 as many edges", x.fits(), 1L | 2L | 64L | 128L);
        x.see(-1, 0);
        x.see(2, 12);
        C.due("23 apart", (x.fits() >>> 35) + (x.fits() >>> 5 & 1), 2);
        C.due("23 nothing changes", x.told(0), 4);
        RegionWords all = Check.block(0, 35);
        all.see(0, 35);
        C.due("23 each", all.fits(), (1L << 36) - 1);
        all.see(2, 24);
        C.due("23 corners", all.fits(), 1L | 1L << 5 | 1L << 30 | 1L << 35);
    }

    private static void fraction(String name, RegionWords x, int[] asked, long above, long below) {
        C.due("24 " + name + " above", x.odds(asked[0], asked[1], asked[2], 0), above);
        C.due("24 " + name + " below", x.odds(asked[0], asked[1], asked[2], 1), below);
    }

    private static void odds() {
        RegionWords x = Check.block(0, 8);
        fraction("twos", x, new int[] {0, 0, 0}, 1, 3);
        fraction("twos", x, new int[] {0, 0, 1}, 2, 3);
        fraction("twos", x, new int[] {0, 1, 1}, 1, 3);
        fraction("twos, not in it", x, new int[] {0, 35, 1}, 0, 1);
        fraction("bars", x, new int[] {1, 8, 0}, 1, 1);
        fraction("bars", x, new int[] {1, 8, 1}, 0, 1);
        fraction("ells", x, new int[] {2, 0, 0}, 1, 2);
        fraction("ells", x, new int[] {2, 8, 3}, 1, 2);
        fraction("ells", x, new int[] {2, 8, 1}, 1, 2);
        fraction("ells", x, new int[] {2, 8, 2}, 0, 1);
        fraction("in lowest terms", Check.block(0, 21), new int[] {0, 0, 0}, 1, 2);
        fraction("nothing", new RegionWords(), new int[] {2, 0, 3}, 0, 1);
        fraction("no covering", Check.with(0), new int[] {0, 0, 0}, NO, NO);
        fraction("no kind", x, new int[] {3, 0, 0}, NO, NO);
        fraction("no kind", x, new int[] {-1, 0, 0}, NO, NO);
        fraction("no cell", x, new int[] {0, 36, 0}, NO, NO);
        fraction("no cell", x, new int[] {0, -1, 0}, NO, NO);
        fraction("no form", x, new int[] {0, 0, 2}, NO, NO);
        fraction("no form", x, new int[] {1, 0, 2}, NO, NO);
        fraction("no form", x, new int[] {2, 0, 4}, NO, NO);
        fraction("no form", x, new int[] {2, 0, -1}, NO, NO);
        C.due("24 no part", x.odds(0, 0, 0, 2), NO);
        C.due("24 no part", x.odds(0, 0, 0, -1), NO);
    }

    private static void mean() {
        C.due("25 nothing", new RegionWords().mean(), NO);
        C.due("25 not tilable", Check.with(0).mean(), NO);
        C.due("25 fork", Check.with(FORK).mean(), NO);
        C.due("25 block", Check.block(0, 7).mean(), Double.doubleToLongBits(-2.0 / 9.0));
        C.due("25 two", Check.with(0, 1).mean(), Double.doubleToLongBits(3.0 / 6.0));
        C.due("25 two down, white", Check.with(1, 7).mean(), Double.doubleToLongBits(3.0 / 6.0));
        C.due("25 just 0", Check.with(0, 1, 2, 3, 6, 7).mean(), 0);
        C.due("25 block, white", Check.block(1, 8).mean(), Double.doubleToLongBits(-2.0 / 9.0));
    }
}
