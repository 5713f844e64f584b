/** Promise 9: each CLAUSE, with all digits that it may have, does what the calls for it do to an object like it. */
public final class ClausesTest {
    private static final Check C = new Check("ClausesTest");
    /** None of these is its own mirror's, upside down or with rows and columns changed. */
    private static final Setting[] REGIONS = {
        Scenes.NEW, Scenes.cells(0), Scenes.cells(4, 13, 14, 21, 30), x -> x.fill(0, 9, 1), x -> x.fill(7, 23, 1),
        x -> x.fill(0, 35, 1)};
    private static final Setting[] LAID = {
        Scenes.NEW, x -> x.fill(0, 9, 1), laid(0, 9, 0), laid(1, 23, 1), laid(6, 34, 0).then(x -> x.turn(10)),
        laid(0, 35, 1).then(x -> x.turn(24)).then(x -> x.turn(17)), laid(0, 35, 0).then(x -> x.turn(24))};
    private static final String[] WAYS = {"r", "d", "l", "u", "rd", "dr", "lu", "ul", "rrrrdu", "lddddd"};

    public static void main(String[] args) {
        for (Setting region : REGIONS) {
            for (int pair = 0; pair < 100; pair++) {
                changes(region, pair / 10, pair % 10);
                walks(region, pair / 10, pair % 10);
            }
            mirrors(region);
        }
        for (Setting setting : LAID) {
            for (int pair = 0; pair < 100; pair++) {
                turns(setting, pair / 10, pair % 10);
            }
            alike("l", setting, x -> x.lay(0) < 0 ? 0 : 1);
            alike("g", setting, x -> x.lay(1) < 0 ? 0 : 1);
        }
        for (int digits = 0; digits < 10000; digits++) {
            blocks(REGIONS[2 + digits % 3], digits / 1000, digits / 100 % 10, digits / 10 % 10, digits % 10);
        }
        C.end();
    }

    private static Setting laid(int from, int to, int which) {
        return x -> {
            x.fill(from, to, 1);
            x.lay(which);
        };
    }

    /** The CLAUSE is done if the call answers 1, and then all is as behind the call. */
    private static void alike(String clause, Setting setting, Call call) {
        RegionWords told = setting.made();
        RegionWords called = setting.made();
        C.due("9 " + clause, Check.read(told, clause), call.on(called));
        for (int cell = 0; cell < 36; cell++) {
            C.due("9 " + clause + ", CELL " + cell, told.of(cell, 0), called.of(cell, 0));
            C.due("9 " + clause + ", CELL " + cell + " in a two", told.of(cell, 2), called.of(cell, 2));
        }
        for (int what = 0; what < 3; what++) {
            C.due("9 " + clause + ", WALK " + what, told.walked(what), called.walked(what));
        }
        C.due("9 " + clause + ", RANK", told.told(7), called.told(7));
    }

    private static int cellOf(int row, int column) {
        return row < 6 && column < 6 ? row * 6 + column : -1;
    }

    private static int vertexOf(int row, int column) {
        return row < 7 && column < 7 ? row * 7 + column : -1;
    }

    private static void changes(Setting region, int row, int column) {
        int cell = cellOf(row, column);
        alike("c" + row + column, region, x -> cell < 0 ? 0 : x.cell(cell, 1 - x.of(cell, 0)) < 0 ? 0 : 1);
    }

    private static void turns(Setting setting, int row, int column) {
        alike("t" + row + column, setting, x -> x.turn(vertexOf(row, column)) < 0 ? 0 : 1);
    }

    private static void walks(Setting region, int row, int column) {
        String way = WAYS[(row * 7 + column) % WAYS.length];
        int end = vertexOf(row, column);
        for (int i = 0; i < way.length() && end >= 0; i++) {
            int down = way.charAt(i) == 'd' ? 1 : way.charAt(i) == 'u' ? -1 : 0;
            int right = way.charAt(i) == 'r' ? 1 : way.charAt(i) == 'l' ? -1 : 0;
            boolean there = end / 7 + down >= 0 && end / 7 + down < 7 && end % 7 + right >= 0 && end % 7 + right < 7;
            end = there ? end + 7 * down + right : -1;
        }
        boolean stays = end >= 0;
        alike("w" + row + column + way, region.then(x -> x.begin(20)).then(x -> x.walk(3)), x -> {
            if (stays) {
                Scenes.walk(x, vertexOf(row, column), way);
            }
            return stays ? 1 : 0;
        });
    }

    private static void mirrors(Setting region) {
        alike("m", region, x -> {
            RegionWords as = region.made();
            for (int cell = 0; cell < 36; cell++) {
                x.cell(cell, as.of(cell / 6 * 6 + 5 - cell % 6, 0));
            }
            return 1;
        });
    }

    private static void blocks(Setting region, int row, int column, int toRow, int toColumn) {
        int from = cellOf(row, column);
        int to = cellOf(toRow, toColumn);
        String digits = "" + row + column + toRow + toColumn;
        alike("f" + digits, region, x -> x.fill(from, to, 1) < 0 ? 0 : 1);
        alike("e" + digits, region, x -> x.fill(from, to, 0) < 0 ? 0 : 1);
    }
}
