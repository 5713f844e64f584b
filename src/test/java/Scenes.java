/** Settings in which calls are refused; each takes at most 200 calls, so that as many more may follow. */
final class Scenes {
    /** Balanced, SIMPLE, and not TILABLE: two white CELLS have but one black neighbour. */
    static final int[] FORK_CELLS = {1, 4, 6, 7, 8, 9, 10, 11};

    /** Nothing at all, no IMAGE either. */
    static final Setting NEW = x -> { };
    /** Something of everything, and an IMAGE that is otherwise. */
    static final Setting LAID = Scenes::laid;
    /** Of everything as much as there may be. */
    static final Setting FULL = Scenes::full;
    /** Not SIMPLE: three CELLS, two of them by a corner. */
    static final Setting APART = cells(0, 7, 35);
    /** SIMPLE, and WORD does not CLOSE. */
    static final Setting ODD = cells(14);
    /** SIMPLE, WORD CLOSES, and it isn't TILABLE. */
    static final Setting FORK = cells(FORK_CELLS);
    /** CELLS round a hole. */
    static final Setting RING = cells(0, 1, 2, 6, 8, 12, 13, 14);

    private Scenes() {
    }

    static Setting cells(int... cells) {
        return x -> {
            for (int cell : cells) {
                x.cell(cell, 1);
            }
        };
    }

    static Setting text(Setting setting, String text) {
        return setting.then(x -> {
            feed(x, text);
            return 0;
        });
    }

    static void feed(RegionWords x, String text) {
        for (char sign : text.toCharArray()) {
            x.feed(sign);
        }
    }

    static void walk(RegionWords x, int from, String letters) {
        x.begin(from);
        for (char letter : letters.toCharArray()) {
            x.walk("rdlu".indexOf(letter));
        }
    }

    private static void laid(RegionWords x) {
        x.fill(0, 7, 1);
        x.lay(1);
        walk(x, 16, "rdlu");
        x.see(2, 8);
        x.event(0, 3);
        x.book(0, 0);
        x.image();
        x.fill(0, 35, 0);
        x.fill(7, 22, 1);
        x.lay(0);
        x.turn(17);
        walk(x, 24, "rdd");
        x.see(0, 13);
        x.event(1, 5);
        x.event(3, 0);
        x.book(7, 1);
        x.book(35, 1);
        feed(x, "m;g;w33rd;w00u");
        for (int sort = 0; sort < 5; sort++) {
            x.tape(sort, sort, 37);
            x.item(sort, 0, -1);
            x.item(sort, 36, 1);
        }
    }

    private static void full(RegionWords x) {
        x.fill(0, 35, 1);
        x.lay(1);
        walk(x, 0, "rdlurdlurdlurdlurdlurdlurdlurdlurdlurdlu");
        for (int i = 0; i < 4; i++) {
            x.see(2, i == 3 ? 144 : 24);
        }
        for (int i = 0; i < 8; i++) {
            x.event(i % 4, 0);
            x.book(i * 5, i == 6 ? 0 : 1);
        }
        feed(x, "e0050;m;l;t33;w00rrrrrrddddddlllllluu;w11rdlurdlurdlurdlurdlu;f0012;w66lluurrddlluurrdd;g;c00;w55llu");
        for (int i = 0; i < 6; i++) {
            x.tape(i, i % 5, 60);
            x.item(i, 59, -1);
        }
        x.image();
    }
}
