/** Promises 10 to 17: what is told of the region, and walks. */
public final class ToldTest {
    private static final Check C = new Check("ToldTest");
    private static final int[] NO_VERTICES = {-1, 49, Integer.MIN_VALUE, Integer.MAX_VALUE};
    /** Balanced, SIMPLE, and not TILABLE: two white CELLS have but one black neighbour. */
    private static final int[] FORK = {1, 4, 6, 7, 8, 9, 10, 11};

    public static void main(String[] args) {
        of();
        told();
        word();
        height();
        far();
        centre();
        walked();
        winds();
        C.end();
    }

    private static void of() {
        RegionWords x = Check.with(0, 1, 35);
        C.due("10 in", x.of(35, 0), 1);
        C.due("10 not in", x.of(34, 0), 0);
        C.due("10 black", x.of(0, 1) + 2 * x.of(7, 1) + 4 * x.of(35, 1) + 8 * x.of(30, 1) + 16 * x.of(5, 1), 7);
        C.due("10 white", x.of(1, 1) + x.of(6, 1), 0);
        C.due("10 none laid", x.of(0, 2), -5);
        C.due("10 no cell", x.of(36, 0), -1);
        C.due("10 no cell", x.of(-1, 2), -1);
        C.due("10 no what", x.of(0, 3), -1);
        C.due("10 no what", x.of(0, -1), -1);
        x.cell(35, 0);
        x.lay(0);
        C.due("10 its two", x.of(0, 2), 1);
        C.due("10 its two", x.of(1, 2), 0);
        C.due("10 of no two", x.of(2, 2), -5);
    }

    private static void all(String name, RegionWords x, int... dues) {
        for (int i = 0; i < dues.length; i++) {
            C.due("11 " + name + " told(" + i + ")", x.told(i), dues[i]);
        }
    }

    private static void told() {
        all("nothing", new RegionWords(), 0, 0, 0, 0, 0, -5, -5, -5, -5);
        all("one black", Check.with(0), 1, 1, 4, 1, 0, 4, 996, -5, -5);
        all("one white", Check.with(1), 1, 0, 4, 1, 0, 4, 1004, -5, -5);
        all("two", Check.with(0, 1), 2, 1, 6, 1, 1, 6, 1000, -5, 0);
        all("two by a corner", Check.with(0, 7), 2, 2, 8, 0, 0, -5, -5, -5, -5);
        all("not beside by the row's end", Check.with(5, 6), 2, 0, 8, 0, 0, -5, -5, -5, -5);
        all("fork", Check.with(FORK), 8, 4, 18, 1, 0, 18, 1000, -5, -5);
        all("all", Check.block(0, 35), 36, 18, 24, 1, 1, 24, 1000, -5, 35);
        RegionWords ring = Check.block(0, 14);
        ring.cell(7, 0);
        all("ring", ring, 8, 4, 16, 0, 0, -5, -5, -5, -5);
        ring.cell(14, 0);
        all("ring, open by a corner alone", ring, 7, 3, 16, 0, 0, -5, -5, -5, -5);
        ring.cell(1, 0);
        all("ring, open, in two", ring, 6, 3, 16, 0, 0, -5, -5, -5, -5);
        RegionWords at = Check.block(0, 35);
        at.cell(6, 0);
        all("open to what lies beyond", at, 35, 18, 26, 1, 0, 26, 996, -5, -5);
        RegionWords x = Check.block(0, 7);
        x.lay(1);
        all("laid", x, 4, 2, 8, 1, 1, 8, 1000, 1, 1);
        x.lay(0);
        C.due("11 told(7)", x.told(7), 0);
        C.due("11 no what", x.told(-1), -1);
        C.due("11 no what", x.told(9), -1);
    }

    private static void words(String name, RegionWords x, String word) {
        for (int i = 0; i < word.length(); i++) {
            C.due("12 " + name + " word(" + i + ")", x.word(i), "rdlu".indexOf(word.charAt(i)));
        }
        C.due("12 " + name + " ends", x.word(word.length()), -5);
        C.due("12 " + name + " ends", x.word(Integer.MAX_VALUE), -5);
        C.due("12 " + name + " below", x.word(-1), -1);
        C.due("12 " + name + " below", x.word(Integer.MIN_VALUE), -1);
    }

    private static void word() {
        words("nothing", new RegionWords(), "");
        words("one", Check.with(35), "rdlu");
        words("two", Check.with(3, 9), "rddluu");
        words("ell", Check.with(0, 1, 6), "rrdldluu");
        words("left below", Check.with(1, 6, 7), "rddlluru");
        words("fork", Check.with(FORK), "rdrrurdrdlllllluru");
        words("apart", Check.with(0, 2), "");
    }

    private static void height() {
        RegionWords x = Check.block(0, 7);
        int[] vertices = {0, 1, 2, 7, 8, 9, 14, 15, 16};
        int[] word = {0, -1, 0, 1, 99, 1, 0, -1, 0};
        for (int i = 0; i < 9; i++) {
            int edge = word[i] + 1000;
            boolean middle = vertices[i] == 8;
            C.due("13 word", x.height(vertices[i], 0), middle ? -5 : edge);
            C.due("13 low", x.height(vertices[i], 1), middle ? 998 : edge);
            C.due("13 high", x.height(vertices[i], 2), middle ? 1002 : edge);
            C.due("13 none laid", x.height(vertices[i], 3), -3);
        }
        x.lay(0);
        C.due("13 least", x.height(8, 3), 998);
        C.due("13 edge", x.height(7, 3), 1001);
        x.turn(8);
        C.due("13 turned", x.height(8, 3), 1002);
        for (int what = 0; what < 4; what++) {
            C.due("13 not of it", x.height(3, what), -5);
            C.due("13 not of it", x.height(48, what), -5);
            for (int no : NO_VERTICES) {
                C.due("13 no vertex", x.height(no, what), -1);
            }
        }
        C.due("13 no what", x.height(0, 4), -1);
        C.due("13 no what", x.height(0, -1), -1);
        heightStates();
    }

    private static void heightStates() {
        RegionWords odd = Check.with(0);
        RegionWords fork = Check.with(FORK);
        RegionWords apart = Check.with(0, 2);
        for (int what = 0; what < 4; what++) {
            C.due("13 does not close", odd.height(0, what), -3);
            C.due("13 does not close", odd.height(40, what), -3);
            C.due("13 not simple", apart.height(0, what), -3);
            C.due("13 no cells", new RegionWords().height(0, what), -3);
            C.due("13 fork", fork.height(1, what), what == 0 ? 1000 : -3);
        }
        C.due("13 fork ahead of the last step", fork.height(8, 0), 999);
        C.due("13 fork, not on it", fork.height(0, 0), -5);
    }

    private static void far() {
        RegionWords black = Check.with(0);
        C.due("14 itself", black.far(0, 0), 0);
        C.due("14 down", black.far(0, 7), 1);
        C.due("14 across", black.far(0, 8), 2);
        C.due("14 round", black.far(0, 1), 3);
        C.due("14 back", black.far(1, 0), 1);
        RegionWords white = Check.with(1);
        C.due("14 white", white.far(1, 2), 1);
        C.due("14 white", white.far(2, 1), 3);
        C.due("14 white", white.far(8, 2), 2);
        RegionWords corner = Check.with(0, 7);
        C.due("14 by a corner", corner.far(0, 16), 4);
        C.due("14 by a corner", corner.far(1, 9), 6);
        RegionWords apart = Check.with(0, 35);
        C.due("14 apart", apart.far(0, 48), -5);
        C.due("14 there", apart.far(48, 40), 2);
        C.due("14 not of it", apart.far(0, 2), -5);
        C.due("14 not of it", apart.far(2, 0), -5);
        C.due("14 not of it, itself", apart.far(2, 2), -5);
        C.due("14 nothing", new RegionWords().far(0, 0), -5);
        for (int no : NO_VERTICES) {
            C.due("14 no vertex", black.far(no, 0), -1);
            C.due("14 no vertex", black.far(0, no), -1);
            C.due("14 no vertex, not of it", black.far(30, no), -1);
        }
    }

    private static void centre() {
        C.due("15 no cells", new RegionWords().centre(0), -3);
        C.due("15 no cells", new RegionWords().centre(1), -3);
        C.due("15 no what, no cells", new RegionWords().centre(2), -1);
        C.due("15 no what", Check.with(0).centre(-1), -1);
        C.due("15 row", Check.with(2).centre(0), 0x3F000000);
        C.due("15 column", Check.with(2).centre(1), 0x40200000);
        C.due("15 last", Check.with(35).centre(1), Float.floatToIntBits(5.5f));
        C.due("15 rows", Check.with(0, 1, 6).centre(0), Float.floatToIntBits(2.5f / 3.0f));
        C.due("15 columns", Check.with(0, 1, 2, 5, 13, 30, 31).centre(1), Float.floatToIntBits(13.5f / 7.0f));
        C.due("15 just two", Check.with(1, 2).centre(1), 0x40000000);
        C.due("15 one", Check.with(0, 1).centre(1), 0x3F800000);
    }

    private static void walks(RegionWords x, String name, int... dues) {
        for (int i = 0; i < dues.length; i++) {
            C.due("16 " + name + " walked(" + i + ")", x.walked(i), dues[i]);
        }
        C.due("16 no what", x.walked(6), -1);
        C.due("16 no what", x.walked(-1), -1);
    }

    private static void walked() {
        RegionWords x = new RegionWords();
        walks(x, "none", 0, 0, 0, 1, 0, 1000);
        x.walk(0);
        walks(x, "r", 1, 0, 1, 0, 1, 999);
        x.walk(0);
        walks(x, "rr", 2, 0, 2, 0, 2, 1000);
        x.walk(2);
        walks(x, "rrl", 3, 0, 1, 0, 1, 999);
        x.walk(2);
        walks(x, "rrll", 4, 0, 0, 1, 0, 1000);
        Check.read(x, "w00rdurdlrullrr");
        walks(x, "rdurdlrullrr", 12, 0, 2, 0, 2, 1000);
        Check.read(x, "w11rdlu");
        walks(x, "round a black one", 4, 8, 8, 1, 4, 996);
        Check.read(x, "w11drul");
        walks(x, "round it back", 4, 8, 8, 1, 4, 1004);
        Check.read(x, "w33rlrl");
        walks(x, "rlrl", 4, 24, 24, 1, 0, 1000);
        Check.read(x, "w33udlr");
        walks(x, "udlr", 4, 24, 24, 1, 0, 1000);
        Check.read(x, "w33ruuld");
        walks(x, "ruuld", 5, 24, 17, 0, 5, 1001);
    }

    private static void winds() {
        RegionWords x = new RegionWords();
        C.due("17 no steps", x.winds(0), 100);
        C.due("17 no cell", x.winds(36), -1);
        C.due("17 no cell", x.winds(-1), -1);
        x.walk(0);
        C.due("17 not closed", x.winds(0), -3);
        C.due("17 no cell, not closed", x.winds(36), -1);
        Check.read(x, "w11rrddlluu");
        for (int i = 0; i < 36; i++) {
            boolean round = i == 7 || i == 8 || i == 13 || i == 14;
            C.due("17 as the clock winds(" + i + ")", x.winds(i), round ? 101 : 100);
        }
        Check.read(x, "w11ddrruull");
        for (int i = 0; i < 36; i++) {
            boolean round = i == 7 || i == 8 || i == 13 || i == 14;
            C.due("17 against it winds(" + i + ")", x.winds(i), round ? 99 : 100);
        }
        Check.read(x, "w00rdlurdlurdlu");
        C.due("17 three times", x.winds(0), 103);
        C.due("17 not beside", x.winds(1) + x.winds(6), 200);
        Check.read(x, "w11rdluuldr");
        C.due("17 an eight", x.winds(7), 101);
        C.due("17 an eight's other half", x.winds(0), 99);
    }
}
