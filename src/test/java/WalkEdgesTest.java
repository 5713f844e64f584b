import java.util.Collections;

/** Walks and texts at their bounds: promises 6 to 9, 16, 17. */
public final class WalkEdgesTest {
    private static final Check C = new Check("WalkEdgesTest");
    private static final int MOST_STEPS = 40, MOST_BYTES = 100;

    public static void main(String[] args) {
        beginAtEachVertex();
        aStepFromEachVertex();
        noStepsToForty();
        beginTellsHowManyItHad();
        closedWithoutSteps();
        shortenedToNothing();
        shortenedByNothing();
        shortenedEitherFirst();
        shortenedAtNeitherEnd();
        heightsOfFortySteps();
        windsRoundNothing();
        windsTenTimes();
        windsRoundEachCell();
        windsRoundAll();
        windsInColumnsAbove();
        signsAre0To127();
        aHundredBytes();
        anEmptyText();
        clausesAre1To12();
        lettersAre1To20();
        digitsAre0To9();
        eachByteOfEachClause();
        theEndTooEarly();
        betweenClauses();
        aHundredBytesAreRead();
        C.end();
    }

    private static void beginAtEachVertex() {
        for (int vertex = 0; vertex < 49; vertex++) {
            RegionWords x = new RegionWords();
            C.due("6 at " + vertex, x.begin(vertex), 0);
            C.due("16 begins", x.walked(1), vertex);
            C.due("16 ends", x.walked(2), vertex);
        }
    }

    private static void aStepFromEachVertex() {
        for (int vertex = 0; vertex < 49; vertex++) {
            boolean[] leaves = {vertex % 7 == 6, vertex / 7 == 6, vertex % 7 == 0, vertex / 7 == 0};
            int[] ends = {vertex + 1, vertex + 7, vertex - 1, vertex - 7};
            for (int way = 0; way < 4; way++) {
                RegionWords x = new RegionWords();
                x.begin(vertex);
                C.due("7 from " + vertex + " by " + way, x.walk(way), leaves[way] ? -3 : 1);
                C.due("16 ends", x.walked(2), leaves[way] ? vertex : ends[way]);
                C.due("9 from " + vertex + " by " + way,
                    Check.read(x, "w" + vertex / 7 + vertex % 7 + "rdlu".charAt(way)), leaves[way] ? 0 : 1);
                C.due("16 ends", x.walked(2), leaves[way] ? vertex : ends[way]);
            }
        }
    }

    private static RegionWords toAndFro(int steps) {
        RegionWords x = new RegionWords();
        x.begin(48);
        for (int i = 0; i < steps; i++) {
            x.walk(i % 2 == 0 ? 3 : 1);
        }
        return x;
    }

    private static void noStepsToForty() {
        RegionWords x = new RegionWords();
        for (int i = 0; i < MOST_STEPS; i++) {
            C.due("16 STEPS", x.walked(0), i);
            C.due("7 one more", x.walk(i % 4), i + 1);
        }
        C.due("7 FULL", x.walk(0), -4);
        C.due("16 STEPS", x.walked(0), MOST_STEPS);
        C.due("7 thirty-nine, one more", toAndFro(39).walk(1), MOST_STEPS);
    }

    private static void beginTellsHowManyItHad() {
        C.due("6 it had none", toAndFro(0).begin(0), 0);
        C.due("6 it had one", toAndFro(1).begin(0), 1);
        RegionWords x = toAndFro(MOST_STEPS);
        C.due("6 it had forty", x.begin(48), MOST_STEPS);
        C.due("6 it has none", x.begin(0), 0);
        C.due("7 the first", x.walk(0), 1);
    }

    private static void closedWithoutSteps() {
        C.due("16 without STEPS", toAndFro(0).walked(3), 1);
        C.due("16 one", toAndFro(1).walked(3), 0);
        C.due("16 two", toAndFro(2).walked(3), 1);
        C.due("16 thirty-nine", toAndFro(39).walked(3), 0);
        C.due("16 forty", toAndFro(MOST_STEPS).walked(3), 1);
    }

    private static RegionWords walk(int from, String letters) {
        RegionWords x = new RegionWords();
        Scenes.walk(x, from, letters);
        C.due("7 " + letters, x.walked(0), letters.length());
        return x;
    }

    private static void shortenedToNothing() {
        C.due("16 without STEPS", walk(24, "").walked(4), 0);
        for (String two : new String[] {"rl", "lr", "ud", "du"}) {
            C.due("16 " + two, walk(24, two).walked(4), 0);
            C.due("16 twenty times " + two, walk(24, two.repeat(20)).walked(4), 0);
        }
        String out = "rrrrrrdllllllddrrrrd";
        String back = new StringBuilder(out).reverse().toString()
            .replace('r', 'L').replace('l', 'r').replace('L', 'l').replace('d', 'U').replace('U', 'u');
        C.due("16 twenty there and back", walk(0, out + back).walked(4), 0);
        C.due("16 twenty there, nineteen back", walk(0, out + back.substring(0, 19)).walked(4), 1);
        C.due("16 and a way of its own", walk(0, out + back.substring(0, 19) + "d").walked(4), 2);
    }

    private static void shortenedByNothing() {
        for (String two : new String[] {"rr", "ll", "uu", "dd", "ru", "ur", "rd", "dr", "lu", "ul", "ld", "dl"}) {
            C.due("16 " + two, walk(24, two).walked(4), 2);
        }
        C.due("16 forty", walk(0, "rdlu".repeat(10)).walked(4), MOST_STEPS);
    }

    private static void shortenedEitherFirst() {
        C.due("16 rlr", walk(24, "rlr").walked(4), 1);
        C.due("16 rudl", walk(24, "rudl").walked(4), 0);
        C.due("16 rudr", walk(24, "rudr").walked(4), 2);
        C.due("16 ruld", walk(24, "ruld").walked(4), 4);
        C.due("16 drluru", walk(24, "drluru").walked(4), 2);
        C.due("16 nothing ahead of it", walk(24, "rll").walked(4), 1);
    }

    /** The last STEP of a CLOSED walk and its first are not one behind the other. */
    private static void shortenedAtNeitherEnd() {
        String[] walks = {"rrdlul", "rdrull", "ddrulu", "drdluu", "lldrur", "uurdld"};
        for (String letters : walks) {
            RegionWords x = walk(24, letters);
            C.due("16 CLOSED: " + letters, x.walked(3), 1);
            C.due("16 SHORTENED: " + letters, x.walked(4), letters.length());
        }
        C.due("16 what goes, between others", walk(24, "rrldlurl").walked(4), 4);
        C.due("16 all goes, from within", walk(24, "rrldlrul").walked(4), 0);
    }

    private static void heightsOfFortySteps() {
        C.due("16 none", walk(24, "").walked(5), 1000);
        C.due("16 ten times round a BLACK one", walk(0, "rdlu".repeat(10)).walked(5), 960);
        C.due("16 ten times round it, back", walk(0, "drul".repeat(10)).walked(5), 1040);
        C.due("16 ten times round a WHITE one", walk(1, "rdlu".repeat(10)).walked(5), 1040);
        C.due("16 ten times round it, back", walk(1, "drul".repeat(10)).walked(5), 960);
    }

    private static void windsRoundNothing() {
        for (int cell = 0; cell < 36; cell++) {
            C.due("17 without STEPS", walk(24, "").winds(cell), 100);
            C.due("17 to and fro", walk(24, "ud").winds(cell), 100);
        }
    }

    private static void windsTenTimes() {
        for (int cell = 0; cell < 36; cell++) {
            int due = cell == 35 ? 10 : 0;
            C.due("17 ten times, " + cell, walk(40, "rdlu".repeat(10)).winds(cell), 100 + due);
            C.due("17 ten times back, " + cell, walk(40, "drul".repeat(10)).winds(cell), 100 - due);
        }
    }

    private static void windsRoundEachCell() {
        for (int cell = 0; cell < 36; cell++) {
            RegionWords x = walk(cell / 6 * 7 + cell % 6, "rdlu");
            for (int other = 0; other < 36; other++) {
                C.due("17 round " + cell + ": " + other, x.winds(other), cell == other ? 101 : 100);
            }
        }
    }

    private static void windsRoundAll() {
        String all = "rrrrrrddddddlllllluuuuuu";
        String back = "ddddddrrrrrruuuuuullllll";
        for (int cell = 0; cell < 36; cell++) {
            C.due("17 round all, " + cell, walk(0, all).winds(cell), 101);
            C.due("17 round all, back, " + cell, walk(0, back).winds(cell), 99);
        }
    }

    /** There and back in columns of its own: the CELLS between. */
    private static void windsInColumnsAbove() {
        RegionWords x = walk(15, "rrrdlll" + "u");
        int[] dues = {100, 101, 101, 101, 100, 100};
        for (int column = 0; column < 6; column++) {
            C.due("17 in its row, column " + column, x.winds(12 + column), dues[column]);
            C.due("17 in the row above", x.winds(6 + column), 100);
            C.due("17 in the row below", x.winds(18 + column), 100);
        }
    }

    private static void signsAre0To127() {
        RegionWords x = new RegionWords();
        C.due("8 0", x.feed(0), 1);
        C.due("8 127", x.feed(127), 2);
        C.due("8 -1", x.feed(-1), -2);
        C.due("8 128", x.feed(128), -2);
        C.due("33 bytes", x.count(3), 2);
    }

    private static void aHundredBytes() {
        RegionWords x = new RegionWords();
        for (int i = 0; i < MOST_BYTES; i++) {
            C.due("33 bytes", x.count(3), i);
            C.due("8 one more", x.feed(i), i + 1);
        }
        C.due("8 FULL", x.feed('m'), -4);
        C.due("33 bytes", x.count(3), MOST_BYTES);
        C.due("9 read", x.read(), -10);
        C.due("33 empty then", x.count(3), 0);
        C.due("8 the first again", x.feed('m'), 1);
        C.due("9 read", x.read(), 1);
        C.due("33 empty then", x.count(3), 0);
    }

    private static int read(String text) {
        RegionWords x = new RegionWords();
        int answer = Check.read(x, text);
        C.due("9 empty then, " + text, x.count(3), 0);
        return answer;
    }

    private static void anEmptyText() {
        C.due("9 empty", read(""), -10);
        RegionWords x = new RegionWords();
        Check.read(x, "c00");
        C.due("9 not the last one again", x.read(), -10);
        C.due("9 nothing done", x.told(0), 1);
    }

    private static String times(String clause, int many) {
        return String.join(";", Collections.nCopies(many, clause));
    }

    private static void clausesAre1To12() {
        for (int many = 1; many <= 12; many++) {
            C.due("9 m, " + many, read(times("m", many)), many);
            C.due("9 f0000, " + many, read(times("f0000", many)), many);
            C.due("9 ends too early behind " + many, read(times("m", many) + ";"), many < 12 ? -10 - 2 * many : -33);
        }
        C.due("9 thirteen", read(times("m", 13)), -33);
        C.due("9 thirteen, longer", read(times("c00", 13)), -57);
        C.due("9 fifty", read(times("m", 50)), -33);
        C.due("9 none", read(";"), -10);
    }

    private static void lettersAre1To20() {
        C.due("9 none", read("w00"), -13);
        C.due("9 none, more", read("w00;m"), -13);
        for (int many = 1; many <= 20; many++) {
            String letters = "rl".repeat(10).substring(0, many);
            RegionWords x = new RegionWords();
            C.due("9 letters " + many, Check.read(x, "w00" + letters), 1);
            C.due("16 STEPS", x.walked(0), many);
            C.due("9 letters and a CLAUSE", read("w00" + letters + ";m"), 2);
        }
        C.due("9 twenty-one", read("w00" + "rl".repeat(10) + "r"), -33);
        C.due("9 twenty-one, a refused one", read("w66" + "rl".repeat(10) + "r;m"), -33);
    }

    /** Digits up to 9 are read; what isn't there is refused. */
    private static void digitsAre0To9() {
        for (int row = 0; row < 10; row++) {
            for (int column = 0; column < 10; column++) {
                boolean cell = row < 6 && column < 6;
                boolean vertex = row < 7 && column < 7;
                String place = "" + row + column;
                RegionWords x = new RegionWords();
                C.due("9 c" + place, Check.read(x, "c" + place), cell ? 1 : 0);
                C.due("9 c" + place, x.told(0), cell ? 1 : 0);
                C.due("9 f" + place + "99", read("f" + place + "99"), 0);
                C.due("9 f00" + place, Check.read(x, "e0055;f00" + place), cell ? 2 : 1);
                C.due("9 f00" + place, x.told(0), cell ? (row + 1) * (column + 1) : 0);
                C.due("9 e" + place, Check.read(x, "f0055;e" + place + "55"), cell ? 2 : 1);
                C.due("9 e" + place, x.told(0), cell ? 36 - (6 - row) * (6 - column) : 36);
                C.due("9 w" + place, Check.read(x, "w" + place + (row < 3 ? "d" : "u")), vertex ? 1 : 0);
                C.due("9 w" + place, x.walked(1), vertex ? row * 7 + column : 0);
                Check.read(x, "f0055;g");
                boolean turns = vertex && x.turn(row * 7 + column) >= 0;
                C.due("9 t" + place, Check.read(x, "g;t" + place), turns ? 2 : 1);
            }
        }
    }

    /** Each of the 128 signs at each place of each CLAUSE: those that may stand there, and the others. */
    private static void eachByteOfEachClause() {
        String[] forms = {"c##", "f####", "e####", "m", "l", "g", "t##", "w##*"};
        for (String ahead : new String[] {"", "m;", "w00rd;f0011;"}) {
            for (String form : forms) {
                String text = ahead;
                for (int i = 0; i < form.length(); i++) {
                    boolean ends = i == form.length() - 1;
                    String allowed = form.charAt(i) == '#' ? "0123456789" : form.charAt(i) == '*' ? "rdlu"
                        : i == 0 ? "cfemlgtw" : form.substring(i, i + 1);
                    eachSign(text, i == 0, ends, allowed);
                    text = text + (form.charAt(i) == '#' ? '0' : form.charAt(i) == '*' ? 'r' : form.charAt(i));
                }
                for (char sign = 0; sign < 128; sign++) {
                    boolean goesOn = sign == ';' || form.startsWith("w") && "rdlu".indexOf(sign) >= 0;
                    int answer = read(text + sign);
                    C.due("9 behind " + text + ", sign " + (int) sign, answer < 0 ? answer : 0,
                        sign == ';' ? -11 - text.length() : goesOn ? 0 : -10 - text.length());
                }
            }
        }
    }

    private static void eachSign(String text, boolean first, boolean ends, String allowed) {
        for (char sign = 0; sign < 128; sign++) {
            boolean whole = first ? "mlg".indexOf(sign) >= 0 : ends;
            int answer = read(text + sign);
            int due = allowed.indexOf(sign) < 0 ? -10 - text.length() : whole ? 0 : -11 - text.length();
            C.due("9 " + text + ", sign " + (int) sign, answer < 0 ? answer : 0, due);
        }
    }

    private static void theEndTooEarly() {
        String text = "c00;f0011;e0000;m;l;g;t11;w00r";
        for (int i = 0; i < text.length(); i++) {
            String some = text.substring(0, i);
            boolean whole = i > 0 && (text.charAt(i) == ';');
            int answer = read(some);
            C.due("9 " + some, answer < 0 ? answer : 0, whole ? 0 : -10 - i);
        }
        C.due("9 " + text, read(text), 5);
    }

    private static void betweenClauses() {
        char[] signs = {' ', ',', ':', '\n', '\t', '\0', '.', '+', 'm'};
        for (char sign : signs) {
            C.due("9 " + (int) sign + " between", read("m" + sign + "m"), -11);
            C.due("9 " + (int) sign + " behind ;", read("m;" + sign), sign == 'm' ? 2 : -12);
            C.due("9 " + (int) sign + " ahead of ;", read("c00" + sign + ";m"), -13);
            C.due("9 " + (int) sign + " inside", read("c0" + sign + "0"), -12);
        }
        C.due("9 two between", read("m;;m"), -12);
    }

    private static void aHundredBytesAreRead() {
        String walk = "w00" + "rl".repeat(10);
        String last = "w66" + "ud".repeat(9);
        String text = "c00;" + times(walk, 3) + ";m;" + last;
        C.due("9 how many bytes", text.length(), MOST_BYTES - 1);
        RegionWords x = new RegionWords();
        C.due("9 to the last byte", Check.read(x, text + "u"), 6);
        C.due("9 the last byte is of it", x.walked(0), 19);
        C.due("9 the last byte is a FAULT", read(text + "x"), -109);
        C.due("9 the end is behind the last byte", read(text + ";"), -110);
        C.due("9 what is FULL is not of it", read(text + "uu"), 6);
    }
}
