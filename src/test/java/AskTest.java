/** Promises 10 to 21, 23 to 25, 27, 29, 30, 33, 36: what is asked changes nothing, refused or not. */
public final class AskTest {
    private static final Check C = new Check("AskTest");
    private static final int NONE = -1, BAD = -2, STATE = -3, NOT = -5, CAST = -12;
    private static final long NO = Long.MIN_VALUE;
    private static final int LEAST = Integer.MIN_VALUE, MOST = Integer.MAX_VALUE;
    private static final int[] NO_CELLS = {-1, 36, LEAST, MOST};
    private static final int[] NO_VERTICES = {-1, 49, LEAST, MOST};
    private static final int[] NO_KINDS = {-1, 3, LEAST, MOST};
    private static final int[] NO_BITS = {-1, 2, LEAST, MOST};
    private static final int[] NO_TAPES = {-1, 6, LEAST, MOST};
    private static final Setting[] ANY = {Scenes.NEW, Scenes.LAID, Scenes.FULL};
    private static final Setting[] NOT_TILABLE = {Scenes.NEW, Scenes.APART, Scenes.ODD, Scenes.FORK, Scenes.RING};
    private static final Setting[] NOT_SIMPLE = {Scenes.NEW, Scenes.APART, Scenes.RING};

    public static void main(String[] args) {
        ofNone();
        ofNoTwo();
        toldNone();
        toldNot();
        wordNone();
        wordNot();
        heightNone();
        heightState();
        heightNot();
        farNone();
        farNot();
        centreNone();
        centreState();
        walkedNone();
        windsNone();
        windsState();
        kindNone();
        firstNone();
        firstNot();
        oddsNo();
        meanNo();
        afterNone();
        judgeNone();
        judgeCast();
        countBad();
        peekNo();
        answered();
        C.end();
    }

    private static void ofNone() {
        for (Setting setting : ANY) {
            for (int what = 0; what < 3; what++) {
                for (int no : NO_CELLS) {
                    int asked = what;
                    C.still("10 NONE cell " + no + ", " + what, setting, x -> x.of(no, asked), NONE);
                }
            }
            for (int no : new int[] {-1, 3, LEAST, MOST}) {
                C.still("10 NONE what " + no, setting, x -> x.of(0, no), NONE);
                C.still("10 NONE what " + no + ", last cell", setting, x -> x.of(35, no), NONE);
            }
        }
    }

    private static void ofNoTwo() {
        for (Setting setting : NOT_TILABLE) {
            C.still("10 -5 none laid", setting, x -> x.of(7, 2), NOT);
        }
        C.still("10 -5 of no two", Scenes.LAID, x -> x.of(0, 2), NOT);
        C.still("10 -5 of no two, last", Scenes.LAID, x -> x.of(35, 2), NOT);
    }

    private static void toldNone() {
        for (Setting setting : ANY) {
            for (int no : new int[] {-1, 9, LEAST, MOST}) {
                C.still("11 NONE what " + no, setting, x -> x.told(no), NONE);
            }
        }
    }

    private static void toldNot() {
        for (Setting setting : NOT_SIMPLE) {
            C.still("11 -5 no WORD", setting, x -> x.told(5), NOT);
            C.still("11 -5 no HEIGHTS", setting, x -> x.told(6), NOT);
        }
        for (Setting setting : NOT_TILABLE) {
            C.still("11 -5 none laid", setting, x -> x.told(7), NOT);
            C.still("11 -5 not TILABLE", setting, x -> x.told(8), NOT);
        }
        C.still("11 -5 none laid, TILABLE", Scenes.cells(0, 1), x -> x.told(7), NOT);
    }

    private static void wordNone() {
        for (Setting setting : ANY) {
            C.still("12 NONE -1", setting, x -> x.word(-1), NONE);
            C.still("12 NONE far below", setting, x -> x.word(LEAST), NONE);
        }
        C.still("12 NONE ahead of -5", Scenes.APART, x -> x.word(-1), NONE);
    }

    private static void wordNot() {
        for (Setting setting : NOT_SIMPLE) {
            C.still("12 -5 it isn't SIMPLE", setting, x -> x.word(0), NOT);
        }
        C.still("12 -5 not as many as 5", Scenes.ODD, x -> x.word(4), NOT);
        C.still("12 -5 not as many as 25", Scenes.FULL, x -> x.word(24), NOT);
        C.still("12 -5 far from as many", Scenes.FULL, x -> x.word(MOST), NOT);
    }

    private static void heightNone() {
        for (Setting setting : ANY) {
            for (int what = 0; what < 4; what++) {
                int asked = what;
                for (int no : NO_VERTICES) {
                    C.still("13 NONE vertex " + no + ", " + what, setting, x -> x.height(no, asked), NONE);
                }
            }
            for (int no : new int[] {-1, 4, LEAST, MOST}) {
                C.still("13 NONE what " + no, setting, x -> x.height(0, no), NONE);
                C.still("13 NONE what " + no + ", last", setting, x -> x.height(48, no), NONE);
            }
        }
    }

    private static void heightState() {
        for (Setting setting : NOT_SIMPLE) {
            C.still("13 STATE it isn't SIMPLE", setting, x -> x.height(0, 0), STATE);
        }
        C.still("13 STATE WORD doesn't CLOSE", Scenes.ODD, x -> x.height(16, 0), STATE);
        C.still("13 STATE ahead of -5", Scenes.ODD, x -> x.height(0, 0), STATE);
        for (Setting setting : NOT_TILABLE) {
            C.still("13 STATE it isn't TILABLE, LOW", setting, x -> x.height(8, 1), STATE);
            C.still("13 STATE it isn't TILABLE, HIGH", setting, x -> x.height(8, 2), STATE);
            C.still("13 STATE none is laid", setting, x -> x.height(8, 3), STATE);
            C.still("13 STATE none is laid, ahead of -5", setting, x -> x.height(48, 3), STATE);
        }
        C.still("13 STATE none is laid, TILABLE", Scenes.cells(0, 1), x -> x.height(0, 3), STATE);
    }

    /** LAID has CELLS in rows 1 to 3 and columns 1 to 4; the VERTEX 16 is inside. */
    private static void heightNot() {
        C.still("13 -5 not on WORD, but inside", Scenes.LAID, x -> x.height(16, 0), NOT);
        for (int no : new int[] {0, 1, 7, 13, 35, 36, 48}) {
            for (int what = 0; what < 4; what++) {
                int asked = what;
                C.still("13 -5 not of THE REGION " + no, Scenes.LAID, x -> x.height(no, asked), NOT);
            }
        }
    }

    private static void farNone() {
        for (Setting setting : ANY) {
            for (int no : NO_VERTICES) {
                C.still("14 NONE one " + no, setting, x -> x.far(no, 16), NONE);
                C.still("14 NONE other " + no, setting, x -> x.far(16, no), NONE);
                C.still("14 NONE ahead of -5 " + no, setting, x -> x.far(48, no), NONE);
            }
        }
    }

    private static void farNot() {
        C.still("14 -5 no CELLS", Scenes.NEW, x -> x.far(0, 0), NOT);
        C.still("14 -5 one is not of it", Scenes.LAID, x -> x.far(0, 16), NOT);
        C.still("14 -5 the other is not of it", Scenes.LAID, x -> x.far(16, 48), NOT);
        C.still("14 -5 neither is of it", Scenes.LAID, x -> x.far(48, 48), NOT);
        C.still("14 -5 one does not come there", Scenes.APART, x -> x.far(0, 48), NOT);
        C.still("14 -5 one does not come there", Scenes.APART, x -> x.far(48, 0), NOT);
    }

    private static void centreNone() {
        for (int no : NO_BITS) {
            C.still("15 NONE what " + no, Scenes.LAID, x -> x.centre(no), NONE);
            C.still("15 NONE what " + no, Scenes.FULL, x -> x.centre(no), NONE);
            C.still("15 NONE ahead of STATE, what " + no, Scenes.NEW, x -> x.centre(no), NONE);
        }
    }

    private static void centreState() {
        Setting emptied = Scenes.FULL.then(x -> x.fill(0, 35, 0));
        for (Setting setting : new Setting[] {Scenes.NEW, emptied}) {
            C.still("15 STATE no CELLS, rows", setting, x -> x.centre(0), STATE);
            C.still("15 STATE no CELLS, columns", setting, x -> x.centre(1), STATE);
        }
    }

    private static void walkedNone() {
        for (Setting setting : ANY) {
            for (int no : new int[] {-1, 6, LEAST, MOST}) {
                C.still("16 NONE what " + no, setting, x -> x.walked(no), NONE);
            }
        }
    }

    private static void windsNone() {
        for (Setting setting : ANY) {
            for (int no : NO_CELLS) {
                C.still("17 NONE cell " + no, setting, x -> x.winds(no), NONE);
            }
        }
        C.due("17 LAID's WALK isn't CLOSED, so that NONE was ahead of STATE", Scenes.LAID.made().walked(3), 0);
    }

    private static void windsState() {
        for (int cell = 0; cell < 36; cell += 5) {
            int round = cell;
            C.still("17 STATE it isn't CLOSED, cell " + cell, Scenes.LAID, x -> x.winds(round), STATE);
        }
        Setting oneLess = Scenes.NEW.then(x -> {
            Scenes.walk(x, 24, "rdl");
            return 0;
        });
        C.still("17 STATE a STEP too few", oneLess, x -> x.winds(21), STATE);
        C.still("17 STATE a STEP too many", oneLess.then(x -> x.walk(3)).then(x -> x.walk(3)), x -> x.winds(21), STATE);
        C.due("17 CLOSED between", oneLess.then(x -> x.walk(3)).made().winds(21), 101);
    }

    private static void kindNone() {
        for (Setting setting : ANY) {
            for (int no : NO_KINDS) {
                C.still("18 NONE kind " + no, setting, x -> x.coverings(no), NONE);
                C.still("20 NONE kind " + no, setting, x -> x.weight(no), NONE);
                C.still("21 NONE kind " + no, setting, x -> x.barred(no), NONE);
            }
        }
    }

    private static void firstNone() {
        for (Setting setting : ANY) {
            for (int no : NO_KINDS) {
                C.still("19 NONE kind " + no, setting, x -> x.first(no, 0), NONE);
            }
            for (int kind = 0; kind < 3; kind++) {
                int asked = kind;
                for (int no : NO_CELLS) {
                    C.still("19 NONE cell " + no, setting, x -> x.first(asked, no), NONE);
                }
            }
        }
    }

    private static void firstNot() {
        for (int kind = 0; kind < 3; kind++) {
            int asked = kind;
            C.still("19 -5 no CELLS", Scenes.NEW, x -> x.first(asked, 0), NOT);
            C.still("19 -5 it is in none", Scenes.LAID, x -> x.first(asked, 0), NOT);
            C.still("19 -5 it is in none, last", Scenes.LAID, x -> x.first(asked, 35), NOT);
            C.still("19 -5 there is no COVERING", Scenes.APART, x -> x.first(asked, 0), NOT);
        }
    }

    private static void oddsNo() {
        for (Setting setting : ANY) {
            for (int part = 0; part < 2; part++) {
                int asked = part;
                for (int no : NO_KINDS) {
                    C.still("24 NO kind " + no, setting, x -> x.odds(no, 7, 0, asked), NO);
                }
                for (int no : NO_CELLS) {
                    C.still("24 NO cell " + no, setting, x -> x.odds(0, no, 0, asked), NO);
                }
                for (int no : NO_BITS) {
                    C.still("24 NO form of TWOS " + no, setting, x -> x.odds(0, 7, no, asked), NO);
                    C.still("24 NO form of BARS " + no, setting, x -> x.odds(1, 7, no, asked), NO);
                }
                for (int no : new int[] {-1, 4, LEAST, MOST}) {
                    C.still("24 NO form of ELLS " + no, setting, x -> x.odds(2, 7, no, asked), NO);
                }
            }
            for (int no : NO_BITS) {
                C.still("24 NO part " + no, setting, x -> x.odds(0, 7, 0, no), NO);
            }
        }
        for (int kind = 0; kind < 3; kind++) {
            int asked = kind;
            C.still("24 NO there is no COVERING", Scenes.APART, x -> x.odds(asked, 0, 0, 0), NO);
            C.still("24 NO there is no COVERING, below", Scenes.APART, x -> x.odds(asked, 1, 1, 1), NO);
        }
    }

    private static void meanNo() {
        for (Setting setting : NOT_TILABLE) {
            C.still("25 NO it isn't TILABLE", setting, RegionWords::mean, NO);
        }
    }

    private static void afterNone() {
        for (Setting setting : ANY) {
            for (int no : new int[] {-1, 3, LEAST, MOST}) {
                C.still("27 NONE what " + no, setting, x -> x.after(no), NONE);
            }
        }
    }

    private static void judgeNone() {
        for (Setting setting : ANY) {
            for (int no : NO_TAPES) {
                C.still("30 NONE tape " + no, setting, x -> x.judge(no, 0), NONE);
                C.still("30 NONE tape " + no + ", place below", setting, x -> x.judge(no, -1), NONE);
            }
        }
    }

    private static void judgeCast() {
        for (int sort = 0; sort < 4; sort++) {
            int tape = sort;
            C.still("30 CAST sort " + sort, Scenes.LAID, x -> x.judge(tape, 0), CAST);
            C.still("30 CAST, place below, sort " + sort, Scenes.LAID, x -> x.judge(tape, -1), CAST);
            C.still("30 CAST, place beyond, sort " + sort, Scenes.LAID, x -> x.judge(tape, 37), CAST);
            Setting empty = Scenes.LAID.then(x -> x.tape(tape, tape, 0));
            C.still("30 CAST, a row of none, sort " + sort, empty, x -> x.judge(tape, 0), CAST);
        }
    }

    private static void countBad() {
        for (Setting setting : ANY) {
            for (int no : new int[] {-1, 4, LEAST, MOST}) {
                C.still("33 BAD what " + no, setting, x -> x.count(no), BAD);
            }
        }
    }

    private static void peekNo() {
        for (Setting setting : ANY) {
            for (int no : NO_TAPES) {
                C.still("36 NO tape " + no, setting, x -> x.peek(no, 0), NO);
            }
            for (int tape = 0; tape < 6; tape++) {
                int asked = tape;
                for (int no : new int[] {-1, 60, LEAST, MOST}) {
                    C.still("36 NO place " + no + " of " + tape, setting, x -> x.peek(asked, no), NO);
                }
            }
        }
        for (int tape = 0; tape < 6; tape++) {
            int asked = tape;
            C.still("36 NO nothing there", Scenes.NEW, x -> x.peek(asked, 0), NO);
        }
        C.still("36 NO just beyond the end", Scenes.LAID, x -> x.peek(0, 37), NO);
    }

    /** What is asked and answered changes nothing, too. */
    private static void answered() {
        Setting[] all = {Scenes.NEW, Scenes.LAID, Scenes.FULL, Scenes.APART, Scenes.ODD, Scenes.FORK, Scenes.RING};
        Call[] asks = {
            x -> x.of(7, 0), x -> x.of(7, 1), x -> x.of(7, 2), x -> x.told(0), x -> x.told(1), x -> x.told(2),
            x -> x.told(3), x -> x.told(4), x -> x.told(5), x -> x.told(6), x -> x.told(7), x -> x.told(8),
            x -> x.word(0), x -> x.height(8, 0), x -> x.height(16, 1), x -> x.height(16, 2), x -> x.height(16, 3),
            x -> x.far(8, 32), x -> x.far(32, 8), x -> x.centre(0), x -> x.centre(1), x -> x.walked(0),
            x -> x.walked(1), x -> x.walked(2), x -> x.walked(3), x -> x.walked(4), x -> x.walked(5), x -> x.winds(0),
            x -> x.coverings(0), x -> x.coverings(1), x -> x.coverings(2), x -> x.first(0, 7), x -> x.first(1, 7),
            x -> x.first(2, 7), x -> x.weight(0), x -> x.weight(1), x -> x.weight(2), x -> x.barred(0),
            x -> x.barred(1), x -> x.barred(2), RegionWords::fits, x -> x.odds(0, 7, 0, 0), x -> x.odds(1, 7, 1, 1),
            x -> x.odds(2, 7, 3, 0), RegionWords::mean, x -> x.after(0), x -> x.after(1), x -> x.after(2),
            RegionWords::looked, x -> x.judge(4, 0), x -> x.judge(4, 1), x -> x.judge(5, 0), x -> x.judge(4, -1),
            x -> x.count(0), x -> x.count(1), x -> x.count(2), x -> x.count(3), x -> x.peek(0, 0), x -> x.peek(4, 36)};
        for (Setting setting : all) {
            for (int i = 0; i < asks.length; i++) {
                C.same("asked, " + i, setting.then(asks[i]), setting);
                C.same("asked twice, " + i, setting.then(asks[i]).then(asks[i]), setting);
            }
        }
    }
}
