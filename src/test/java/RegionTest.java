/** Promises 1 to 9: what changes the region, the tiling, the walk, the text. */
public final class RegionTest {
    private static final Check C = new Check("RegionTest");
    private static final int[] NO_CELLS = {-1, 36, Integer.MIN_VALUE, Integer.MAX_VALUE};
    private static final int[] NO_VERTICES = {-1, 49, Integer.MIN_VALUE, Integer.MAX_VALUE};

    public static void main(String[] args) {
        newObject();
        cell();
        fill();
        lay();
        turn();
        begin();
        walk();
        feed();
        readFaults();
        readClauses();
        readTilings();
        readWalks();
        C.end();
    }

    private static void newObject() {
        RegionWords x = new RegionWords();
        for (int i = 0; i < 36; i++) {
            C.due("1 of(" + i + ", 0)", x.of(i, 0), 0);
            C.due("1 of(" + i + ", 2)", x.of(i, 2), -5);
        }
        C.due("1 told(0)", x.told(0), 0);
        C.due("1 told(7)", x.told(7), -5);
        for (int i = 0; i < 3; i++) {
            C.due("1 walked(" + i + ")", x.walked(i), 0);
        }
        C.due("1 walked(3)", x.walked(3), 1);
        for (int i = 0; i < 4; i++) {
            C.due("1 count(" + i + ")", x.count(i), 0);
        }
        for (int i = 0; i < 6; i++) {
            C.due("1 peek(" + i + ", 0)", x.peek(i, 0), RegionWords.NO);
        }
        C.due("1 undo()", x.undo(), -3);
        C.due("1 NO", RegionWords.NO, Long.MIN_VALUE);
    }

    private static void cell() {
        RegionWords x = new RegionWords();
        C.due("2 in", x.cell(0, 1), 0);
        C.due("2 in again", x.cell(0, 1), 1);
        C.due("2 last", x.cell(35, 1), 0);
        C.due("2 told(0)", x.told(0), 2);
        C.due("2 of(35, 0)", x.of(35, 0), 1);
        C.due("2 out", x.cell(0, 0), 1);
        C.due("2 out again", x.cell(0, 0), 0);
        C.due("2 told(0)", x.told(0), 1);
        for (int no : NO_CELLS) {
            C.due("2 cell(" + no + ", 1)", x.cell(no, 1), -1);
            C.due("2 cell(" + no + ", 2)", x.cell(no, 2), -1);
        }
        C.due("2 bad", x.cell(3, 2), -2);
        C.due("2 bad", x.cell(3, -1), -2);
        C.due("2 told(0)", x.told(0), 1);
        x = Check.with(0, 1);
        x.lay(0);
        x.cell(0, 1);
        x.cell(35, 0);
        x.cell(36, 1);
        x.cell(0, 2);
        C.due("2 the tiling stays", x.told(7), 0);
        x.cell(35, 1);
        C.due("2 the tiling goes", x.told(7), -5);
        x.cell(35, 0);
        C.due("2 and does not come back", x.told(7), -5);
    }

    private static void fill() {
        RegionWords x = new RegionWords();
        C.due("3 four", x.fill(0, 7, 1), 4);
        C.due("3 seven", x.fill(7, 14, 1), 7);
        C.due("3 one", x.fill(35, 35, 1), 8);
        C.due("3 less", x.fill(1, 8, 0), 5);
        C.due("3 of(0, 0)", x.of(0, 0), 1);
        C.due("3 of(1, 0)", x.of(1, 0), 0);
        C.due("3 of(8, 0)", x.of(8, 0), 0);
        C.due("3 none", x.fill(0, 35, 0), 0);
        C.due("3 a row", x.fill(0, 5, 1), 6);
        C.due("3 a column", x.fill(0, 30, 1), 11);
        C.due("3 all", x.fill(0, 35, 1), 36);
        for (int no : NO_CELLS) {
            C.due("3 fill(" + no + ", 5, 0)", x.fill(no, 5, 0), -1);
            C.due("3 fill(5, " + no + ", 2)", x.fill(5, no, 2), -1);
        }
        C.due("3 is", x.fill(0, 1, 2), -2);
        C.due("3 is", x.fill(0, 1, -1), -2);
        C.due("3 row less", x.fill(12, 7, 0), -2);
        C.due("3 column less", x.fill(1, 6, 0), -2);
        C.due("3 column less, row same", x.fill(8, 7, 0), -2);
        C.due("3 told(0)", x.told(0), 36);
        x.lay(1);
        x.fill(0, 35, 1);
        x.fill(1, 6, 0);
        C.due("3 the tiling stays", x.told(7), 35);
        x.fill(3, 3, 0);
        C.due("3 the tiling goes", x.told(7), -5);
        x = Check.block(0, 1);
        x.lay(0);
        x.fill(30, 35, 0);
        C.due("3 the tiling stays", x.told(7), 0);
    }

    private static void lay() {
        RegionWords x = Check.block(0, 7);
        for (int no : new int[] {-1, 2, Integer.MAX_VALUE}) {
            C.due("4 lay(" + no + ")", x.lay(no), -1);
        }
        C.due("4 none is laid", x.told(7), -5);
        C.due("4 least", x.lay(0), 0);
        C.due("4 columns", x.of(0, 2), 6);
        C.due("4 columns", x.of(7, 2), 1);
        C.due("4 greatest", x.lay(1), 1);
        C.due("4 rows", x.of(0, 2), 1);
        C.due("4 rows", x.of(7, 2), 6);
        x.lay(2);
        C.due("4 stays", x.told(7), 1);
        C.due("4 least again", x.lay(0), 0);
        C.due("4 nothing", new RegionWords().lay(0), -3);
        C.due("4 no such, nothing", new RegionWords().lay(2), -1);
        C.due("4 odd", Check.with(0, 1, 2).lay(1), -3);
        C.due("4 apart", Check.with(0, 1, 30, 31).lay(0), -3);
        C.due("4 bars", Check.with(1, 6, 7, 8, 9, 10, 11, 4).lay(0), -3);
        RegionWords ring = Check.block(0, 14);
        ring.cell(7, 0);
        C.due("4 a hole", ring.lay(0), -3);
        C.due("4 none is laid", ring.of(0, 2), -5);
        C.due("4 a block elsewhere, white first", Check.block(1, 8).lay(1), 1);
        RegionWords white = Check.block(1, 8);
        white.lay(0);
        C.due("4 white first: rows", white.of(1, 2), 2);
        C.due("4 out of it", white.of(0, 2), -5);
    }

    private static void turn() {
        RegionWords x = Check.block(0, 7);
        C.due("5 none is laid", x.turn(8), -3);
        for (int no : NO_VERTICES) {
            C.due("5 turn(" + no + ")", x.turn(no), -1);
        }
        x.lay(0);
        C.due("5 up", x.turn(8), 1);
        C.due("5 rows", x.of(0, 2), 1);
        C.due("5 rows", x.of(6, 2), 7);
        C.due("5 down", x.turn(8), 0);
        C.due("5 columns", x.of(0, 2), 6);
        C.due("5 columns", x.of(1, 2), 7);
        for (int v = 0; v < 49; v++) {
            if (v != 8) {
                C.due("5 turn(" + v + ")", x.turn(v), -3);
            }
        }
        C.due("5 no turn, no change", x.told(7), 0);
        x.cell(35, 1);
        C.due("5 none is laid", x.turn(8), -3);
        x = Check.block(0, 8);
        x.lay(0);
        C.due("5 three twos: LEAST", x.of(0, 2), 6);
        C.due("5 not two twos", x.turn(8), -3);
        C.due("5 told(8)", x.told(8), 2);
        C.due("5 first turn", x.turn(9), 1);
        C.due("5 second turn", x.turn(8), 2);
    }

    private static void begin() {
        RegionWords x = new RegionWords();
        C.due("6 none had", x.begin(24), 0);
        x.walk(0);
        x.walk(1);
        for (int no : NO_VERTICES) {
            C.due("6 begin(" + no + ")", x.begin(no), -1);
        }
        C.due("6 where", x.walked(1), 24);
        C.due("6 had two", x.begin(48), 2);
        C.due("6 none", x.walked(0), 0);
        C.due("6 where", x.walked(1), 48);
        C.due("6 ends", x.walked(2), 48);
        C.due("6 none had", x.begin(0), 0);
    }

    private static void walk() {
        RegionWords x = new RegionWords();
        C.due("7 up leaves", x.walk(3), -3);
        C.due("7 left leaves", x.walk(2), -3);
        C.due("7 bad", x.walk(4), -2);
        C.due("7 bad", x.walk(-1), -2);
        C.due("7 none", x.walked(0), 0);
        for (int i = 1; i <= 6; i++) {
            C.due("7 right", x.walk(0), i);
        }
        C.due("7 right leaves", x.walk(0), -3);
        for (int i = 7; i <= 12; i++) {
            C.due("7 down", x.walk(1), i);
        }
        C.due("7 down leaves", x.walk(1), -3);
        C.due("7 corner", x.walked(2), 48);
        x.begin(0);
        for (int i = 1; i <= 40; i++) {
            C.due("7 to and fro", x.walk(i % 2 == 1 ? 1 : 3), i);
        }
        C.due("7 full", x.walk(0), -4);
        C.due("7 would leave, full", x.walk(3), -3);
        C.due("7 bad, full", x.walk(7), -2);
        C.due("7 forty", x.walked(0), 40);
        C.due("7 stays", x.walked(2), 0);
    }

    private static void feed() {
        RegionWords x = new RegionWords();
        C.due("8 bad", x.feed(-1), -2);
        C.due("8 bad", x.feed(128), -2);
        C.due("8 first", x.feed(0), 1);
        for (int i = 2; i <= 100; i++) {
            C.due("8 feed", x.feed(127), i);
        }
        C.due("8 full", x.feed(0), -4);
        C.due("8 bad, full", x.feed(128), -2);
        C.due("8 hundred", x.count(3), 100);
        C.due("8 read", x.read(), -10);
        C.due("8 empty", x.count(3), 0);
        C.due("8 again", x.feed('m'), 1);
    }

    private static void fault(String text, int place) {
        RegionWords x = Check.block(0, 7);
        x.lay(1);
        C.due("9 read " + text, Check.read(x, text), -10 - place);
        C.due("9 then empty", x.count(3), 0);
        C.due("9 nothing done", x.told(0), 4);
        C.due("9 nothing done", x.told(7), 1);
    }

    private static void readFaults() {
        fault("", 0);
        fault("c", 1);
        fault("c1", 2);
        fault("cx1", 1);
        fault("c1x", 2);
        fault("c/1", 1);
        fault("c1:", 2);
        fault("c12x", 3);
        fault("c123", 3);
        fault("c12;", 4);
        fault(";c12", 0);
        fault("c12;;c12", 4);
        fault(" c12", 0);
        fault("c12 ;m", 3);
        fault("c12; m", 4);
        fault("C12", 0);
        fault("f", 1);
        fault("f001", 4);
        fault("f00112", 5);
        fault("e00x1", 3);
        fault("e0011g", 5);
        fault("m1", 1);
        fault("l1", 1);
        fault("gg", 1);
        fault("t1", 2);
        fault("t1r", 2);
        fault("t111", 3);
        fault("w", 1);
        fault("w00", 3);
        fault("w00;m", 3);
        fault("w001", 3);
        fault("w00rx", 4);
        fault("w00r;", 5);
        fault("w00R", 3);
        fault("w00rlrlrlrlrlrlrlrlrlrlr", 23);
        fault("m;m;m;m;m;m;m;m;m;m;m;m;", 23);
        fault("m;m;m;m;m;m;m;m;m;m;m;m;m", 23);
        fault("m;m;m;m;m;m;m;m;m;m;m;mx", 23);
        fault("m;m;m;m;m;m;m;m;m;m;m;", 22);
        fault("c55;x", 4);
    }

    private static void readClauses() {
        RegionWords x = new RegionWords();
        C.due("9 c", Check.read(x, "c00"), 1);
        C.due("9 c in", x.of(0, 0), 1);
        C.due("9 c twice", Check.read(x, "c00;c55"), 2);
        C.due("9 c out", x.of(0, 0), 0);
        C.due("9 c last", x.of(35, 0), 1);
        C.due("9 c refused", Check.read(x, "c06;c60;c99"), 0);
        C.due("9 told(0)", x.told(0), 1);
        C.due("9 f", Check.read(x, "f1223"), 1);
        C.due("9 f four", x.told(0), 5);
        C.due("9 f first", x.of(8, 0), 1);
        C.due("9 f last", x.of(15, 0), 1);
        C.due("9 f not", x.of(14, 0) + x.of(9, 0) + x.of(16, 0), 2);
        C.due("9 f refused", Check.read(x, "f6000;f0600;f0060;f0006;f2010;f0201;f5544"), 0);
        C.due("9 f refused", x.told(0), 5);
        C.due("9 f one", Check.read(x, "f0000"), 1);
        C.due("9 e", Check.read(x, "e1222"), 1);
        C.due("9 e two less", x.told(0), 4);
        C.due("9 e refused", Check.read(x, "e6000;e0600;e0060;e0006;e2010;e0201;c00"), 1);
        C.due("9 told(0)", x.told(0), 3);
        C.due("9 e of none is done", Check.read(x, "e0005"), 1);
        C.due("9 m", Check.read(x, "e0055;c00;c12;m"), 4);
        C.due("9 m", x.of(5, 0) + 2 * x.of(9, 0), 3);
        C.due("9 m", x.told(0), 2);
        C.due("9 twelve", Check.read(x, "m;m;m;m;m;m;m;m;m;m;m;c01"), 12);
        C.due("9 done one behind the other", x.of(0, 0) + x.of(8, 0) * 2 + x.of(1, 0) * 4, 7);
        C.due("9 as fed", x.count(3), 0);
        String most = "w00rlrlrlrlrlrlrlrlrlrl;";
        C.due("9 ninety-nine", Check.read(x, most + most + most + most + "c55"), 5);
        C.due("9 a hundred, ends too early", Check.read(x, most + most + most + most + "c55;"), -110);
    }

    private static void readTilings() {
        RegionWords x = new RegionWords();
        C.due("9 l refused", Check.read(x, "l;g;t11"), 0);
        C.due("9 l", Check.read(x, "f0011;l"), 2);
        C.due("9 l laid", x.told(7), 0);
        C.due("9 g", Check.read(x, "g"), 1);
        C.due("9 g laid", x.told(7), 1);
        C.due("9 t", Check.read(x, "t11"), 1);
        C.due("9 t height", x.height(8, 3), 998);
        C.due("9 t turned", x.told(7), 0);
        C.due("9 t refused", Check.read(x, "t00;t12;t66;t77;t99;t07"), 0);
        C.due("9 f of no change: it stays", Check.read(x, "f0011;e5555"), 2);
        C.due("9 laid", x.told(7), 0);
        C.due("9 m of a region not its mirror's: it goes", Check.read(x, "m"), 1);
        C.due("9 none", x.told(7), -5);
        C.due("9 m of its mirror's: it stays", Check.read(x, "e0055;f0005;l;m"), 4);
        C.due("9 laid", x.told(7), 0);
        C.due("9 c there and back: it goes", Check.read(x, "c55;c55"), 2);
        C.due("9 none", x.told(7), -5);
    }

    private static void readWalks() {
        RegionWords x = new RegionWords();
        C.due("9 w", Check.read(x, "w12rdlu"), 1);
        C.due("9 w begins", x.walked(1), 9);
        C.due("9 w four", x.walked(0), 4);
        C.due("9 w closed", x.walked(2), 9);
        C.due("9 w leaves", Check.read(x, "w00u;w00l;w66r;w66d;w05rr;w70r;w07l;w99u"), 0);
        C.due("9 w stays", x.walked(1), 9);
        C.due("9 w stays", x.walked(0), 4);
        C.due("9 w leaves and comes back", Check.read(x, "w00rul"), 0);
        C.due("9 w stays", x.walked(0), 4);
        C.due("9 w of nineteen", Check.read(x, "w66ulululululudrdrdrdr;c00"), 2);
        C.due("9 w begins", x.walked(1), 48);
        C.due("9 w nineteen", x.walked(0), 19);
        C.due("9 w twenty", Check.read(x, "w66ulululululudrdrdrdrd;c00"), 2);
        C.due("9 w twenty", x.walked(0), 20);
        C.due("9 w ends", x.walked(2), 40);
        C.due("9 begin", x.begin(3), 20);
    }
}
