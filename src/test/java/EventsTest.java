/** Promises 26 to 37: events, books, judging, the image, tapes. */
public final class EventsTest {
    private static final Check C = new Check("EventsTest");
    private static final long NO = RegionWords.NO;
    private static final int LEAST = Integer.MIN_VALUE, MOST = Integer.MAX_VALUE;
    private static final int[] NO_TAPES = {-1, 6, LEAST, MOST};

    public static void main(String[] args) {
        event();
        after();
        book();
        looked();
        judge();
        image();
        count();
        tape();
        item();
        peek();
        shift();
        C.end();
    }

    private static void event() {
        RegionWords x = new RegionWords();
        C.due("26 none", x.event(-1, 77), 0);
        C.due("26 cell", x.event(0, 35), 1);
        C.due("26 row", x.event(1, 5), 2);
        C.due("26 column", x.event(2, 5), 3);
        C.due("26 mirror", x.event(3, 0), 4);
        C.due("26 no what", x.event(4, 0), -1);
        C.due("26 no what", x.event(-2, 0), -1);
        for (int no : new int[] {-1, 36, LEAST, MOST}) {
            C.due("26 no cell", x.event(0, no), -1);
            C.due("26 no row", x.event(1, no), -1);
            C.due("26 no column", x.event(2, no), -1);
            C.due("26 bad", x.event(3, no), -2);
        }
        C.due("26 no row", x.event(1, 6), -1);
        C.due("26 no column", x.event(2, 6), -1);
        C.due("26 bad", x.event(3, 1), -2);
        C.due("26 four", x.count(1), 4);
        for (int i = 5; i <= 8; i++) {
            C.due("26 more", x.event(0, 0), i);
        }
        C.due("26 full", x.event(0, 0), -4);
        C.due("26 full", x.event(3, 0), -4);
        C.due("26 bad, full", x.event(3, 1), -2);
        C.due("26 no row, full", x.event(1, 6), -1);
        C.due("26 eight", x.count(1), 8);
        C.due("26 none", x.event(-1, 0), 0);
        C.due("26 none", x.count(1), 0);
        C.due("26 first", x.event(3, 0), 1);
    }

    private static void afters(String name, RegionWords x, int... dues) {
        for (int i = 0; i < 3; i++) {
            C.due("27 " + name + " after(" + i + ")", x.after(i), dues[i]);
        }
    }

    private static void after() {
        RegionWords x = Check.with(0);
        afters("no events", x, 1, 1, 0);
        x.event(0, 6);
        afters("a cell in", x, 2, 1, 1);
        x.event(0, 0);
        afters("a cell out", x, 1, 1, 0);
        x.event(1, 1);
        afters("a row in", x, 6, 1, 1);
        x.event(2, 2);
        afters("a column out", x, 5, 0, 0);
        x.event(3, 0);
        afters("its mirror's", x, 5, 0, 0);
        x.event(0, 9);
        afters("the cell that the mirror wants", x, 6, 1, 1);
        C.due("27 nothing changes", x.told(0), 1);
        C.due("27 nothing changes", x.of(0, 0), 1);
        x.lay(0);
        C.due("27 no what", x.after(3), -1);
        C.due("27 no what", x.after(-1), -1);
        RegionWords y = Check.block(0, 7);
        y.lay(1);
        y.event(1, 5);
        afters("apart", y, 10, 0, 0);
        C.due("27 the tiling stays", y.told(7), 1);
        C.due("27 told as ever", y.height(8, 3), 1002);
    }

    private static void book() {
        RegionWords x = new RegionWords();
        C.due("28 none", x.book(-1, 5), 0);
        C.due("28 first", x.book(0, 0), 1);
        C.due("28 second", x.book(35, 1), 2);
        C.due("28 no cell", x.book(36, 0), -1);
        C.due("28 no cell", x.book(-2, 0), -1);
        C.due("28 no cell, bad", x.book(36, 2), -1);
        C.due("28 bad", x.book(0, 2), -2);
        C.due("28 bad", x.book(0, -1), -2);
        C.due("28 two", x.count(2), 2);
        for (int i = 3; i <= 8; i++) {
            C.due("28 more", x.book(0, 0), i);
        }
        C.due("28 full", x.book(0, 0), -4);
        C.due("28 bad, full", x.book(0, 2), -2);
        C.due("28 no cell, full", x.book(36, 0), -1);
        C.due("28 eight", x.count(2), 8);
        C.due("28 none", x.book(-1, 0), 0);
        C.due("28 none", x.count(2), 0);
    }

    private static void looked() {
        RegionWords x = Check.with(3);
        C.due("29 no rows", x.looked(), -5);
        x.cell(0, 1);
        C.due("29 still no rows", x.looked(), -5);
        x.book(3, 1);
        x.book(4, 0);
        x.book(35, 0);
        C.due("29 none", x.looked(), -5);
        x.cell(35, 1);
        C.due("29 third", x.looked(), 2);
        x.cell(4, 1);
        C.due("29 second", x.looked(), 1);
        x.cell(3, 0);
        C.due("29 first", x.looked(), 0);
    }

    private static void judge() {
        RegionWords x = Check.with(0, 1, 35);
        for (int no : NO_TAPES) {
            C.due("30 no tape", x.judge(no, 0), -1);
        }
        C.due("30 nothing", x.judge(0, 0), 100);
        C.due("30 nothing, below", x.judge(0, -1), 100);
        for (int sort = 0; sort < 4; sort++) {
            x.tape(1, sort, 36);
            C.due("30 another sort", x.judge(1, 0), -12);
            C.due("30 another sort, below", x.judge(1, -1), -12);
        }
        x.tape(0, 4, 40);
        C.due("30 first", x.judge(0, 0), 0);
        x.item(0, 4, 1);
        x.item(0, 5, 1);
        C.due("30 from a place on", x.judge(0, 4), 35);
        x.item(0, 39, 1);
        C.due("30 none", x.judge(0, 4), -5);
        C.due("30 second", x.judge(0, 5), 1);
        C.due("30 ends", x.judge(0, 39), 101);
        C.due("30 at the end", x.judge(0, 40), 100);
        C.due("30 beyond", x.judge(0, 41), 100);
        C.due("30 far beyond", x.judge(0, MOST), 100);
        C.due("30 below", x.judge(0, -1), 100);
        C.due("30 far below", x.judge(0, LEAST), 100);
        x.tape(0, 4, 35);
        x.item(0, 0, 1);
        x.item(0, 1, 1);
        C.due("30 ends ahead of the last", x.judge(0, 0), 135);
        x.tape(0, 4, 0);
        C.due("30 empty row", x.judge(0, 0), 100);
        C.due("30 nothing changes", x.told(0), 3);
    }

    private static void image() {
        RegionWords x = new RegionWords();
        C.due("32 no image", x.undo(), -3);
        x.fill(0, 7, 1);
        x.lay(1);
        Check.read(x, "w11rd");
        x.see(0, 3);
        x.event(0, 2);
        x.book(0, 0);
        x.feed('m');
        x.tape(0, 2, 3);
        C.due("31 image", x.image(), 4);
        x.fill(0, 35, 1);
        x.lay(0);
        x.begin(48);
        x.walk(3);
        x.see(1, 2);
        x.event(3, 0);
        x.book(1, 1);
        x.feed(';');
        x.item(0, 0, 9);
        C.due("32 undo", x.undo(), 4);
        C.due("32 heights", x.height(8, 3), 1002);
        C.due("32 region", x.told(0), 4);
        C.due("32 tiling", x.told(7), 1);
        C.due("32 twos", x.of(0, 2), 1);
        C.due("32 walk", x.walked(0), 2);
        C.due("32 walk begins", x.walked(1), 8);
        C.due("32 walk ends", x.walked(2), 16);
        C.due("32 seen", x.count(0), 1);
        C.due("32 seen as it was", x.fits(), 1L | 2L | 64L | 128L);
        C.due("32 events", x.count(1), 1);
        C.due("32 events as they were", x.after(0), 5);
        C.due("32 book", x.count(2), 1);
        C.due("32 book as it was", x.looked(), 0);
        C.due("32 the text is not of it", x.count(3), 2);
        C.due("32 tapes are not of it", x.peek(0, 0), 9);
        x.turn(8);
        x.walk(0);
        x.see(-1, 0);
        C.due("32 undo again", x.undo(), 4);
        C.due("32 the image has not changed", x.told(7), 1);
        C.due("32 the image has not changed", x.walked(0), 2);
        C.due("32 the image has not changed", x.count(0), 1);
        x.cell(0, 0);
        C.due("31 another image", x.image(), 3);
        x.cell(0, 1);
        C.due("32 that one", x.undo(), 3);
        C.due("32 none is laid", x.told(7), -5);
    }

    private static void count() {
        RegionWords x = new RegionWords();
        x.see(0, 1);
        x.event(3, 0);
        x.event(3, 0);
        x.book(0, 0);
        x.book(0, 0);
        x.book(0, 0);
        Check.read(x, "m");
        for (int i = 0; i < 5; i++) {
            x.feed('x');
        }
        int[] dues = {1, 2, 3, 5};
        for (int i = 0; i < 4; i++) {
            C.due("33 count(" + i + ")", x.count(i), dues[i]);
        }
        C.due("33 bad", x.count(4), -2);
        C.due("33 bad", x.count(-1), -2);
    }

    private static void tape() {
        RegionWords x = new RegionWords();
        for (int no : NO_TAPES) {
            C.due("34 no tape", x.tape(no, 0, 1), -1);
            C.due("34 no tape, bad", x.tape(no, 9, 99), -1);
        }
        C.due("34 sort", x.tape(0, 5, 1), -2);
        C.due("34 sort", x.tape(0, -2, 1), -2);
        C.due("34 sort, size", x.tape(0, 5, -1), -2);
        C.due("34 above 60", x.tape(0, 0, 61), -2);
        C.due("34 far above 60", x.tape(0, 0, MOST), -2);
        C.due("34 size", x.tape(0, 0, -1), -14);
        C.due("34 size", x.tape(0, 4, LEAST), -14);
        C.due("34 still nothing", x.item(0, 0, 1), -11);
        for (int sort = 0; sort < 5; sort++) {
            C.due("34 tape", x.tape(sort, sort, 60), 1);
            C.due("34 all 0", x.peek(sort, 0) + x.peek(sort, 59), 0);
            C.due("34 sixty", x.peek(sort, 60), NO);
        }
        x.item(3, 59, 7);
        C.due("34 refused", x.tape(3, 3, 61), -2);
        C.due("34 as it was", x.peek(3, 59), 7);
        C.due("34 anew", x.tape(3, 3, 60), 1);
        C.due("34 all 0", x.peek(3, 59), 0);
        C.due("34 none", x.tape(3, 3, 0), 1);
        C.due("34 no item", x.item(3, 0, 1), -13);
        C.due("34 nothing", x.tape(3, -1, 99), 1);
        C.due("34 nothing", x.tape(3, -1, -9), 1);
        C.due("34 holds nothing", x.item(3, 0, 1), -11);
    }

    private static void item() {
        RegionWords x = new RegionWords();
        long v = 0x123456789ABCDEF0L;
        long[] dues = {(byte) v, (short) v, (int) v, v, 1};
        for (int sort = 0; sort < 5; sort++) {
            x.tape(sort, sort, 2);
            C.due("35 item", x.item(sort, 1, v), 1);
            C.due("35 lowest bits", x.peek(sort, 1), dues[sort]);
            C.due("35 not beside", x.peek(sort, 0), 0);
            C.due("35 not", x.item(sort, 1, 0), 1);
            C.due("35 0", x.peek(sort, 1), 0);
            C.due("35 place", x.item(sort, 2, 1), -13);
            C.due("35 place", x.item(sort, -1, 1), -13);
            C.due("35 place", x.item(sort, MOST, 1), -13);
        }
        x.item(4, 0, 256);
        C.due("35 whether not 0", x.peek(4, 0), 1);
        x.item(4, 0, 1L << 40);
        C.due("35 whether not 0", x.peek(4, 0), 1);
        C.due("35 nothing", x.item(5, 0, 1), -11);
        C.due("35 nothing, place", x.item(5, -1, 1), -11);
        for (int no : NO_TAPES) {
            C.due("35 no tape", x.item(no, 0, 1), -1);
        }
    }

    private static void peek() {
        RegionWords x = new RegionWords();
        x.tape(2, 3, 3);
        x.item(2, 2, -5);
        C.due("36 item", x.peek(2, 2), -5);
        C.due("36 place", x.peek(2, 3), NO);
        C.due("36 place", x.peek(2, -1), NO);
        C.due("36 place", x.peek(2, LEAST), NO);
        C.due("36 nothing", x.peek(1, 0), NO);
        for (int no : NO_TAPES) {
            C.due("36 no tape", x.peek(no, 0), NO);
        }
    }

    private static void row(RegionWords x, int tape, long... dues) {
        for (int i = 0; i < dues.length; i++) {
            C.due("37 peek(" + tape + ", " + i + ")", x.peek(tape, i), dues[i]);
        }
        C.due("37 ends", x.peek(tape, dues.length), NO);
    }

    private static void shift() {
        RegionWords x = new RegionWords();
        x.tape(0, 2, 5);
        x.tape(1, 2, 3);
        x.tape(2, 3, 5);
        for (int i = 0; i < 5; i++) {
            x.item(0, i, i + 1);
        }
        C.due("37 another", x.shift(0, 2, 1, 1, 2), 2);
        row(x, 1, 0, 3, 4);
        C.due("37 the same, on", x.shift(0, 0, 0, 1, 4), 4);
        row(x, 0, 1, 1, 2, 3, 4);
        C.due("37 the same, back", x.shift(0, 2, 0, 1, 3), 3);
        row(x, 0, 1, 2, 3, 4, 4);
        C.due("37 none", x.shift(0, 5, 1, 3, 0), 0);
        C.due("37 all", x.shift(1, 0, 0, 0, 3), 3);
        row(x, 0, 0, 3, 4, 4, 4);
        for (int no : NO_TAPES) {
            C.due("37 no tape", x.shift(no, 0, 3, 0, -1), -1);
            C.due("37 no other", x.shift(3, 0, no, 0, -1), -1);
        }
        C.due("37 nothing", x.shift(3, 0, 0, 0, 1), -11);
        C.due("37 nothing", x.shift(0, 0, 3, 0, -1), -11);
        C.due("37 unlike", x.shift(0, 0, 2, 0, 1), -12);
        C.due("37 unlike, place", x.shift(2, -1, 0, 0, 99), -12);
        int[][] places = {{-1, 0, 1}, {0, -1, 1}, {0, 0, -1}, {5, 0, 1}, {0, 3, 1}, {6, 0, 0}, {0, 4, 0}, {0, 0, 4},
            {3, 0, 3}, {MOST, 0, 1}, {1, 0, MOST}, {0, MOST, 1}, {0, 0, LEAST}, {LEAST, LEAST, 0}};
        for (int[] p : places) {
            C.due("37 place " + p[0] + " " + p[1] + " " + p[2], x.shift(0, p[0], 1, p[1], p[2]), -13);
        }
        C.due("37 place of the other's end", x.shift(1, 0, 0, 3, 3), -13);
        row(x, 0, 0, 3, 4, 4, 4);
        row(x, 1, 0, 3, 4);
        row(x, 2, 0, 0, 0, 0, 0);
    }
}
