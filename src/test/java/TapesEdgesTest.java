/** TAPES and judging at their bounds: promises 30, 34 to 37. */
public final class TapesEdgesTest {
    private static final Check C = new Check("TapesEdgesTest");
    private static final long NO = Long.MIN_VALUE;
    private static final int MOST = 60;
    private static final int BYTES = 0, SHORTS = 1, INTS = 2, LONGS = 3, BOOLEANS = 4;

    public static void main(String[] args) {
        tapesAre0To5();
        sortsAre0To4();
        sizesAre0To60();
        aRowOfNone();
        aRowAnewIsAllZero();
        holdsNothingAgain();
        lowestBitsOfBytes();
        lowestBitsOfShorts();
        lowestBitsOfInts();
        lowestBitsOfLongs();
        booleansAre0And1();
        itemAtTheFirstAndTheLast();
        peekOfNo();
        judgedToTheEnd();
        judgedAtEachCell();
        judgedFromAPlaceOn();
        judgedAsFarAsTheRowGoes();
        judgedByNothing();
        judgedWithoutCellsAndWithAll();
        shiftOfNone();
        shiftOfAll();
        shiftOnItself();
        shiftOfEachSort();
        shiftToTheEnd();
        C.end();
    }

    private static void tapesAre0To5() {
        RegionWords x = new RegionWords();
        for (int tape = 0; tape < 6; tape++) {
            C.due("34 TAPE " + tape, x.tape(tape, LONGS, 1), 1);
            C.due("35 TAPE " + tape, x.item(tape, 0, 10 + tape), 1);
        }
        for (int tape = 0; tape < 6; tape++) {
            C.due("36 its own, " + tape, x.peek(tape, 0), 10 + tape);
        }
        C.due("34 just beyond", x.tape(6, LONGS, 1), -1);
        C.due("34 just below", x.tape(-1, LONGS, 1), -1);
    }

    private static void sortsAre0To4() {
        for (int sort = 0; sort < 5; sort++) {
            RegionWords x = new RegionWords();
            C.due("34 sort " + sort, x.tape(0, sort, 1), 1);
            C.due("36 it is 0", x.peek(0, 0), 0);
            C.due("30 of booleans alone", x.judge(0, 0), sort == BOOLEANS ? 101 : -12);
        }
        C.due("34 just beyond", new RegionWords().tape(0, 5, 1), -2);
        C.due("34 just below nothing", new RegionWords().tape(0, -2, 1), -2);
    }

    private static void sizesAre0To60() {
        for (int n = 0; n <= MOST; n++) {
            RegionWords x = new RegionWords();
            C.due("34 n " + n, x.tape(5, n % 5, n), 1);
            C.due("36 the last of " + n, x.peek(5, n - 1), n == 0 ? NO : 0);
            C.due("36 beyond " + n, x.peek(5, n), NO);
            C.due("35 beyond " + n, x.item(5, n, 1), -13);
            C.due("35 the last of " + n, x.item(5, n - 1, 1), n == 0 ? -13 : 1);
        }
        C.due("34 61", new RegionWords().tape(5, 0, MOST + 1), -2);
        C.due("34 -1", new RegionWords().tape(5, 0, -1), -14);
    }

    private static void aRowOfNone() {
        RegionWords x = new RegionWords();
        for (int sort = 0; sort < 5; sort++) {
            C.due("34 none", x.tape(sort, sort, 0), 1);
            C.due("35 it is there, no place", x.item(sort, 0, 1), -13);
            C.due("36 no place", x.peek(sort, 0), NO);
            C.due("37 none of none", x.shift(sort, 0, sort, 0, 0), 0);
            C.due("37 one of none", x.shift(sort, 0, sort, 0, 1), -13);
            C.due("30 none", x.judge(sort, 0), sort == BOOLEANS ? 100 : -12);
        }
    }

    private static void aRowAnewIsAllZero() {
        for (int sort = 0; sort < 5; sort++) {
            RegionWords x = new RegionWords();
            x.tape(0, sort, MOST);
            for (int i = 0; i < MOST; i++) {
                x.item(0, i, -1);
            }
            C.due("34 shorter", x.tape(0, sort, 3), 1);
            C.due("34 longer", x.tape(0, sort, MOST), 1);
            for (int i = 0; i < MOST; i++) {
                C.due("34 all 0, " + i, x.peek(0, i), 0);
            }
        }
    }

    private static void holdsNothingAgain() {
        for (int n : new int[] {0, -1, 61, Integer.MIN_VALUE, Integer.MAX_VALUE}) {
            RegionWords x = new RegionWords();
            C.due("34 nothing yet, n " + n, x.tape(0, -1, n), 1);
            x.tape(0, BYTES, 2);
            C.due("34 nothing again, n " + n, x.tape(0, -1, n), 1);
            C.due("35 nothing", x.item(0, 0, 1), -11);
            C.due("36 nothing", x.peek(0, 0), NO);
            C.due("37 nothing", x.shift(0, 0, 0, 0, 0), -11);
            C.due("30 nothing", x.judge(0, 0), 100);
        }
    }

    private static void kept(int sort, long v, long due) {
        RegionWords x = new RegionWords();
        x.tape(2, sort, 3);
        C.due("35 sort " + sort + ", " + v, x.item(2, 1, v), 1);
        C.due("36 sort " + sort + ", " + v, x.peek(2, 1), due);
        C.due("36 ahead of it", x.peek(2, 0), 0);
        C.due("36 behind it", x.peek(2, 2), 0);
    }

    private static void lowestBitsOfBytes() {
        long[] items = {0, 1, -1, 127, 128, 129, 255, 256, 257, -127, -128, -129, -256, 0x7FFFFF80L, 1L << 40};
        long[] dues = {0, 1, -1, 127, -128, -127, -1, 0, 1, -127, -128, 127, 0, -128, 0};
        for (int i = 0; i < items.length; i++) {
            kept(BYTES, items[i], dues[i]);
        }
        kept(BYTES, Long.MAX_VALUE, -1);
        kept(BYTES, Long.MIN_VALUE, 0);
    }

    private static void lowestBitsOfShorts() {
        long[] items = {0, 1, -1, 255, 256, 32767, 32768, 65535, 65536, -32768, -32769, -65536, 1L << 40};
        long[] dues = {0, 1, -1, 255, 256, 32767, -32768, -1, 0, -32768, 32767, 0, 0};
        for (int i = 0; i < items.length; i++) {
            kept(SHORTS, items[i], dues[i]);
        }
        kept(SHORTS, Long.MAX_VALUE, -1);
        kept(SHORTS, Long.MIN_VALUE, 0);
    }

    private static void lowestBitsOfInts() {
        long most = Integer.MAX_VALUE;
        long least = Integer.MIN_VALUE;
        long[] items = {0, 1, -1, 65536, most, most + 1, least, least - 1, 1L << 32, (1L << 32) - 1, 1L << 40};
        long[] dues = {0, 1, -1, 65536, most, least, least, most, 0, -1, 0};
        for (int i = 0; i < items.length; i++) {
            kept(INTS, items[i], dues[i]);
        }
        kept(INTS, Long.MAX_VALUE, -1);
        kept(INTS, Long.MIN_VALUE, 0);
    }

    private static void lowestBitsOfLongs() {
        long[] items = {0, 1, -1, 1L << 31, 1L << 32, 1L << 62, Long.MAX_VALUE, Long.MIN_VALUE, Long.MIN_VALUE + 1};
        for (long item : items) {
            kept(LONGS, item, item);
        }
    }

    private static void booleansAre0And1() {
        kept(BOOLEANS, 0, 0);
        long[] items = {1, 2, -1, 256, 65536, 1L << 31, 1L << 32, 1L << 63, Long.MAX_VALUE};
        for (long item : items) {
            kept(BOOLEANS, item, 1);
        }
        RegionWords x = new RegionWords();
        x.tape(0, BOOLEANS, 1);
        x.item(0, 0, 4);
        x.item(0, 0, 0);
        C.due("36 not any more", x.peek(0, 0), 0);
    }

    private static void itemAtTheFirstAndTheLast() {
        for (int sort = 0; sort < 5; sort++) {
            RegionWords x = new RegionWords();
            x.tape(0, sort, MOST);
            C.due("35 first", x.item(0, 0, 1), 1);
            C.due("35 last", x.item(0, MOST - 1, 1), 1);
            C.due("35 just below", x.item(0, -1, 1), -13);
            C.due("35 just beyond", x.item(0, MOST, 1), -13);
            for (int i = 0; i < MOST; i++) {
                C.due("36 item " + i, x.peek(0, i), i % (MOST - 1) == 0 ? 1 : 0);
            }
        }
    }

    private static void peekOfNo() {
        RegionWords x = new RegionWords();
        x.tape(0, LONGS, 1);
        C.due("36 just below", x.peek(0, -1), NO);
        C.due("36 just beyond", x.peek(0, 1), NO);
        C.due("36 nothing there", x.peek(1, 0), NO);
        C.due("36 no such TAPE", x.peek(6, 0), NO);
        C.due("36 no such TAPE", x.peek(-1, 0), NO);
        C.due("36 there is one", x.peek(0, 0), 0);
    }

    /** A region of each third CELL, and a TAPE that tells it from a place on. */
    private static RegionWords told(int from, int size) {
        RegionWords x = new RegionWords();
        x.tape(3, BOOLEANS, size);
        for (int cell = 0; cell < 36; cell += 3) {
            x.cell(cell, 1);
            x.item(3, from + cell, 1);
        }
        return x;
    }

    private static void judgedToTheEnd() {
        C.due("30 just as many", told(0, 36).judge(3, 0), -5);
        C.due("30 more than as many", told(0, 37).judge(3, 0), -5);
        C.due("30 the last of sixty", told(24, MOST).judge(3, 24), -5);
        C.due("30 one too few", told(0, 35).judge(3, 0), 135);
        C.due("30 one too few of sixty", told(25, MOST).judge(3, 25), 135);
    }

    private static void judgedAtEachCell() {
        for (int cell = 0; cell < 36; cell++) {
            RegionWords x = told(10, MOST);
            x.cell(cell, x.of(cell, 0) == 1 ? 0 : 1);
            C.due("30 otherwise, " + cell, x.judge(3, 10), cell);
            x.cell(35, x.of(35, 0) == 1 ? 0 : 1);
            C.due("30 the first of two, " + cell, x.judge(3, 10), cell == 35 ? -5 : cell);
        }
    }

    private static void judgedFromAPlaceOn() {
        for (int from = 0; from <= 24; from++) {
            RegionWords x = told(from, MOST);
            C.due("30 from " + from, x.judge(3, from), -5);
            C.due("30 from one further", x.judge(3, from + 1), 0);
        }
    }

    private static void judgedAsFarAsTheRowGoes() {
        for (int many = 0; many < 36; many++) {
            RegionWords x = told(MOST - many, MOST);
            C.due("30 so many were looked at, " + many, x.judge(3, MOST - many), 100 + many);
            C.due("30 of a shorter row", told(0, many).judge(3, 0), 100 + many);
        }
        RegionWords x = told(MOST - 9, MOST);
        x.cell(8, 1);
        C.due("30 otherwise ahead of the end", x.judge(3, MOST - 9), 8);
        C.due("30 the end ahead of what is otherwise", told(MOST - 8, MOST).judge(3, MOST - 8), 108);
    }

    private static void judgedByNothing() {
        int[] places = {-1, Integer.MIN_VALUE, MOST, MOST + 1, Integer.MAX_VALUE, Integer.MAX_VALUE - 35};
        for (int place : places) {
            C.due("30 no such place " + place, told(0, MOST).judge(3, place), 100);
            C.due("30 nothing there, place " + place, new RegionWords().judge(3, place), 100);
        }
        C.due("30 nothing there", new RegionWords().judge(0, 0), 100);
        C.due("30 a row of none", told(0, 0).judge(3, 0), 100);
    }

    private static void judgedWithoutCellsAndWithAll() {
        RegionWords x = new RegionWords();
        x.tape(0, BOOLEANS, 36);
        x.tape(1, BOOLEANS, 36);
        for (int i = 0; i < 36; i++) {
            x.item(1, i, 1);
        }
        C.due("30 no CELLS, told so", x.judge(0, 0), -5);
        C.due("30 no CELLS, told otherwise", x.judge(1, 0), 0);
        x.fill(0, 35, 1);
        C.due("30 all CELLS, told so", x.judge(1, 0), -5);
        C.due("30 all CELLS, told otherwise", x.judge(0, 0), 0);
        C.due("30 all CELLS, told so but the last", x.judge(1, 1), 135);
    }

    private static RegionWords rows(int sort) {
        RegionWords x = new RegionWords();
        x.tape(0, sort, 5);
        x.tape(1, sort, 3);
        for (int i = 0; i < 5; i++) {
            x.item(0, i, i % 2 == 0 ? i + 1 : 0);
        }
        return x;
    }

    private static void items(String name, RegionWords x, int tape, long... dues) {
        for (int i = 0; i < dues.length; i++) {
            C.due(name + ", item " + i, x.peek(tape, i), dues[i]);
        }
        C.due(name + ", ends", x.peek(tape, dues.length), NO);
    }

    private static void shiftOfNone() {
        RegionWords x = rows(INTS);
        for (int i = 0; i <= 5; i++) {
            for (int j = 0; j <= 3; j++) {
                C.due("37 none from " + i + " to " + j, x.shift(0, i, 1, j, 0), 0);
            }
        }
        C.due("37 beyond the end", x.shift(0, 6, 1, 0, 0), -13);
        C.due("37 beyond the other's end", x.shift(0, 0, 1, 4, 0), -13);
        C.due("37 below", x.shift(0, -1, 1, 0, 0), -13);
        C.due("37 below the other's", x.shift(0, 0, 1, -1, 0), -13);
        items("37 as it was", x, 0, 1, 0, 3, 0, 5);
        items("37 as it was", x, 1, 0, 0, 0);
    }

    private static void shiftOfAll() {
        RegionWords x = new RegionWords();
        x.tape(0, LONGS, MOST);
        x.tape(1, LONGS, MOST);
        for (int i = 0; i < MOST; i++) {
            x.item(0, i, i + 1);
        }
        C.due("37 all", x.shift(0, 0, 1, 0, MOST), MOST);
        C.due("37 onto itself", x.shift(0, 0, 0, 0, MOST), MOST);
        C.due("37 one more", x.shift(0, 0, 1, 0, MOST + 1), -13);
        for (int i = 0; i < MOST; i++) {
            C.due("37 there", x.peek(1, i), i + 1);
            C.due("37 and here still", x.peek(0, i), i + 1);
        }
    }

    /** As they all were before: none is taken where it has just come. */
    private static void shiftOnItself() {
        RegionWords x = rows(INTS);
        C.due("37 on by one", x.shift(0, 0, 0, 1, 4), 4);
        items("37 on by one", x, 0, 1, 1, 0, 3, 0);
        x = rows(INTS);
        C.due("37 back by one", x.shift(0, 1, 0, 0, 4), 4);
        items("37 back by one", x, 0, 0, 3, 0, 5, 5);
        x = rows(INTS);
        C.due("37 on by two", x.shift(0, 0, 0, 2, 3), 3);
        items("37 on by two", x, 0, 1, 0, 1, 0, 3);
    }

    private static void shiftOfEachSort() {
        for (int sort = 0; sort < 5; sort++) {
            RegionWords x = rows(sort);
            long three = sort == BOOLEANS ? 1 : 3;
            long five = sort == BOOLEANS ? 1 : 5;
            C.due("37 sort " + sort, x.shift(0, 2, 1, 0, 3), 3);
            items("37 sort " + sort, x, 1, three, 0, five);
            items("37 as it was, sort " + sort, x, 0, 1, 0, three, 0, five);
            for (int other = 0; other < 5; other++) {
                x.tape(2, other, 3);
                C.due("37 unlike, " + sort + " " + other, x.shift(0, 0, 2, 0, 1), other == sort ? 1 : -12);
            }
        }
    }

    private static void shiftToTheEnd() {
        RegionWords x = rows(INTS);
        C.due("37 the last to the last", x.shift(0, 4, 1, 2, 1), 1);
        items("37 the last to the last", x, 1, 0, 0, 5);
        C.due("37 the first to the first", x.shift(0, 0, 1, 0, 1), 1);
        items("37 the first to the first", x, 1, 1, 0, 5);
        C.due("37 one too many from", x.shift(0, 4, 1, 0, 2), -13);
        C.due("37 one too many to", x.shift(0, 0, 1, 2, 2), -13);
        items("37 refused, as it was", x, 1, 1, 0, 5);
    }
}
