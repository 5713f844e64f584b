/** EVENTS, the BOOK, THE IMAGE, how many there are, at their bounds: promises 26 to 29, 31 to 33. */
public final class RowsEdgesTest {
    private static final Check C = new Check("RowsEdgesTest");
    private static final int[] ANY = {0, -1, 1, 99, Integer.MIN_VALUE, Integer.MAX_VALUE};
    private static final Setting[] SETTINGS = {Scenes.NEW, Scenes.LAID, Scenes.FULL};

    public static void main(String[] args) {
        eventsAreEightAtMost();
        eventsAreEmptied();
        anEventOfEachCell();
        anEventOfEachRow();
        anEventOfEachColumn();
        anEventOfTheMirror();
        afterNoEvents();
        afterEightEvents();
        afterTellsSimpleAndTilable();
        bookIsEightAtMost();
        bookIsEmptied();
        aPageOfEachCell();
        lookedAtNoRows();
        lookedAtEachOfEightRows();
        lookedAtTheSameCellTwice();
        imageOfNothing();
        imageOfAll();
        imageIsTakenAnew();
        undoneTwice();
        textAndTapesAreNotOfTheImage();
        imageIsOfEverythingElse();
        countOfNoneAndMost();
        C.end();
    }

    private static void eventsAreEightAtMost() {
        RegionWords x = new RegionWords();
        for (int i = 0; i < 8; i++) {
            C.due("33 EVENTS", x.count(1), i);
            C.due("26 one more", x.event(i % 4, 0), i + 1);
        }
        C.due("26 FULL", x.event(0, 0), -4);
        C.due("33 EVENTS", x.count(1), 8);
    }

    private static void eventsAreEmptied() {
        for (int rest : ANY) {
            for (Setting setting : SETTINGS) {
                RegionWords x = setting.made();
                C.due("26 none then, rest " + rest, x.event(-1, rest), 0);
                C.due("33 EVENTS", x.count(1), 0);
                C.due("27 behind none", x.after(0), x.told(0));
                C.due("26 the first", x.event(3, 0), 1);
            }
        }
    }

    private static void anEventOfEachCell() {
        for (int cell = 0; cell < 36; cell++) {
            RegionWords x = Check.with(cell);
            C.due("26 CELL " + cell, x.event(0, cell), 1);
            C.due("27 not any more", x.after(0), 0);
            RegionWords y = new RegionWords();
            y.event(0, cell);
            C.due("27 it is", y.after(0), 1);
            C.due("26 twice", y.event(0, cell), 2);
            C.due("27 it isn't", y.after(0), 0);
        }
        C.due("26 just beyond", new RegionWords().event(0, 36), -1);
    }

    private static void anEventOfEachRow() {
        for (int row = 0; row < 6; row++) {
            RegionWords x = Check.block(0, 35);
            x.fill(row * 6, row * 6 + 5, 0);
            C.due("26 row " + row, x.event(1, row), 1);
            C.due("27 all again", x.after(0), 36);
            RegionWords y = new RegionWords();
            y.event(1, row);
            C.due("27 a row", y.after(0), 6);
            y.event(0, row * 6);
            y.event(0, row * 6 + 5);
            C.due("27 but its ends", y.after(0), 4);
        }
        C.due("26 just beyond", new RegionWords().event(1, 6), -1);
    }

    private static void anEventOfEachColumn() {
        for (int column = 0; column < 6; column++) {
            RegionWords x = Check.block(0, 35);
            C.due("26 column " + column, x.event(2, column), 1);
            C.due("27 a column less", x.after(0), 30);
            RegionWords y = Check.block(column, 30 + column);
            y.event(2, column);
            C.due("27 none", y.after(0), 0);
            y.event(0, column);
            y.event(0, column + 30);
            C.due("27 but its ends", y.after(0), 2);
        }
        C.due("26 just beyond", new RegionWords().event(2, 6), -1);
    }

    private static void anEventOfTheMirror() {
        for (int cell = 0; cell < 36; cell++) {
            RegionWords x = Check.with(cell);
            C.due("26 mirror", x.event(3, 0), 1);
            x.event(0, cell / 6 * 6 + 5 - cell % 6);
            C.due("27 the mirror's of " + cell + ", not any more", x.after(0), 0);
        }
        RegionWords x = new RegionWords();
        C.due("26 n isn't 0", x.event(3, 1), -2);
        C.due("26 n isn't 0", x.event(3, -1), -2);
        C.due("33 EVENTS", x.count(1), 0);
    }

    private static void afterNoEvents() {
        C.due("27 CELLS", new RegionWords().after(0), 0);
        C.due("27 SIMPLE", new RegionWords().after(1), 0);
        C.due("27 TILABLE", new RegionWords().after(2), 0);
        C.due("27 CELLS of all", Check.block(0, 35).after(0), 36);
        C.due("27 SIMPLE, all", Check.block(0, 35).after(1), 1);
        C.due("27 TILABLE, all", Check.block(0, 35).after(2), 1);
    }

    private static void afterEightEvents() {
        RegionWords x = new RegionWords();
        for (int i = 0; i < 8; i++) {
            x.event(0, i);
            C.due("27 behind all of it", x.after(0), i + 1);
        }
        C.due("26 the ninth", x.event(0, 8), -4);
        C.due("27 behind eight", x.after(0), 8);
        x.event(-1, 0);
        for (int row = 0; row < 6; row++) {
            x.event(1, row);
        }
        C.due("27 all rows", x.after(0), 36);
        C.due("27 TILABLE", x.after(2), 1);
        x.event(2, 0);
        x.event(0, 0);
        C.due("27 in their order", x.after(0), 31);
    }

    private static void afterTellsSimpleAndTilable() {
        RegionWords x = Check.with(0);
        C.due("27 SIMPLE, not TILABLE", x.after(1) - x.after(2), 1);
        x.event(0, 1);
        C.due("27 both", x.after(1) + x.after(2), 2);
        x.event(0, 35);
        C.due("27 neither", x.after(1) + x.after(2), 0);
        C.due("27 nothing has happened yet", x.told(0), 1);
    }

    private static void bookIsEightAtMost() {
        RegionWords x = new RegionWords();
        for (int i = 0; i < 8; i++) {
            C.due("33 of the BOOK", x.count(2), i);
            C.due("28 one more", x.book(i, i % 2), i + 1);
        }
        C.due("28 FULL", x.book(0, 0), -4);
        C.due("33 of the BOOK", x.count(2), 8);
    }

    private static void bookIsEmptied() {
        for (int rest : ANY) {
            for (Setting setting : SETTINGS) {
                RegionWords x = setting.made();
                C.due("28 it is empty, rest " + rest, x.book(-1, rest), 0);
                C.due("33 of the BOOK", x.count(2), 0);
                C.due("29 no rows", x.looked(), -5);
                C.due("28 the first", x.book(0, 0), 1);
            }
        }
    }

    private static void aPageOfEachCell() {
        for (int cell = 0; cell < 36; cell++) {
            for (int is = 0; is < 2; is++) {
                RegionWords x = new RegionWords();
                C.due("28 CELL " + cell, x.book(cell, is), 1);
                C.due("29 it isn't there", x.looked(), is == 1 ? 0 : -5);
                x.fill(0, 35, 1);
                C.due("29 all are", x.looked(), is == 1 ? -5 : 0);
                x.cell(cell, 0);
                C.due("29 but that one", x.looked(), is == 1 ? 0 : -5);
            }
        }
    }

    private static void lookedAtNoRows() {
        C.due("29 no rows, no CELLS", new RegionWords().looked(), -5);
        C.due("29 no rows, all CELLS", Check.block(0, 35).looked(), -5);
    }

    private static void lookedAtEachOfEightRows() {
        RegionWords x = new RegionWords();
        for (int i = 0; i < 8; i++) {
            x.book(28 + i, 0);
        }
        C.due("29 none is otherwise", x.looked(), -5);
        for (int i = 7; i >= 0; i--) {
            x.cell(28 + i, 1);
            C.due("29 the first that is", x.looked(), i);
        }
        x.fill(0, 35, 0);
        C.due("29 none any more", x.looked(), -5);
    }

    private static void lookedAtTheSameCellTwice() {
        RegionWords x = new RegionWords();
        x.book(5, 0);
        x.book(5, 1);
        C.due("29 the second is otherwise", x.looked(), 1);
        x.cell(5, 1);
        C.due("29 the first is otherwise", x.looked(), 0);
    }

    private static void imageOfNothing() {
        RegionWords x = new RegionWords();
        C.due("32 there is none", x.undo(), -3);
        C.due("31 no CELLS", x.image(), 0);
        C.due("32 undone", x.undo(), 0);
        Scenes.FULL.prepare(x);
        C.due("31 taken anew", x.undo(), 36);
        Setting much = Scenes.NEW.then(RegionWords::image).then(y -> y.fill(0, 35, 1)).then(y -> y.lay(1))
            .then(y -> y.walk(0)).then(y -> y.see(0, 36)).then(y -> y.event(1, 1)).then(y -> y.book(3, 0));
        C.same("32 as at first", much.then(RegionWords::undo), Scenes.NEW.then(RegionWords::image));
    }

    private static void imageOfAll() {
        RegionWords x = Check.block(0, 35);
        C.due("31 all CELLS", x.image(), 36);
        x.fill(0, 35, 0);
        C.due("32 all CELLS", x.undo(), 36);
        Setting emptied = Scenes.FULL.then(y -> y.cell(35, 0)).then(y -> y.begin(0)).then(y -> y.see(-1, 0))
            .then(y -> y.event(-1, 0)).then(y -> y.book(-1, 0));
        C.same("32 as much as there may be", emptied.then(RegionWords::undo), Scenes.FULL);
    }

    private static void imageIsTakenAnew() {
        Setting two = Scenes.LAID.then(RegionWords::image).then(x -> x.fill(0, 35, 1)).then(RegionWords::undo);
        C.same("31 the second one", two, Scenes.LAID.then(RegionWords::image));
        C.same("31 the same twice", Scenes.LAID.then(RegionWords::image).then(RegionWords::image),
            Scenes.LAID.then(RegionWords::image));
    }

    private static void undoneTwice() {
        Setting once = Scenes.LAID.then(RegionWords::undo);
        C.same("32 twice", once.then(RegionWords::undo), once);
        Setting between = once.then(x -> x.turn(8)).then(x -> x.walk(0)).then(x -> x.see(1, 1))
            .then(x -> x.event(0, 1)).then(x -> x.book(1, 1));
        C.same("32 what was undone is as ever", between.then(RegionWords::undo), once);
    }

    private static void textAndTapesAreNotOfTheImage() {
        Setting imaged = Scenes.NEW.then(RegionWords::image);
        Setting fed = Scenes.text(imaged, "c00;c35").then(x -> x.tape(0, 3, 2)).then(x -> x.item(0, 1, 7));
        C.same("32 undone", fed.then(RegionWords::undo), fed);
        RegionWords x = fed.made();
        C.due("32 undone", x.undo(), 0);
        C.due("33 bytes", x.count(3), 7);
        C.due("36 an item", x.peek(0, 1), 7);
        C.due("9 read", x.read(), 2);
    }

    /** Each part is changed alone, and comes back. */
    private static void imageIsOfEverythingElse() {
        Call[] changes = {
            x -> x.cell(35, 1), x -> x.cell(35, 1) + x.cell(35, 0), x -> x.turn(17), x -> x.lay(1), x -> x.begin(24),
            x -> x.walk(3), x -> x.begin(0), x -> x.see(0, 0), x -> x.see(-1, 0), x -> x.event(0, 0),
            x -> x.event(-1, 0), x -> x.book(0, 1), x -> x.book(-1, 0), x -> x.fill(0, 35, 0)};
        Setting imaged = Scenes.LAID.then(RegionWords::image);
        for (int i = 0; i < changes.length; i++) {
            Setting changed = imaged.then(changes[i]);
            C.due("32 it has changed, " + i, Look.difference(changed, imaged) == null ? 0 : 1, 1);
            C.same("32 undone, " + i, changed.then(RegionWords::undo), imaged);
        }
    }

    private static void countOfNoneAndMost() {
        int[] most = {4, 8, 8, 100};
        int[] laid = {2, 3, 3, 14};
        for (int what = 0; what < 4; what++) {
            C.due("33 none, " + what, new RegionWords().count(what), 0);
            C.due("33 most, " + what, Scenes.FULL.made().count(what), most[what]);
            C.due("33 some, " + what, Scenes.LAID.made().count(what), laid[what]);
        }
        C.due("33 just below", new RegionWords().count(-1), -2);
        C.due("33 just above", new RegionWords().count(4), -2);
    }
}
