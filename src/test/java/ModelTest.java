import java.util.Random;

/** Long runs of calls, drawn from fixed seeds, answered by the class as by the Model. */
public final class ModelTest {
    private static final int RUNS = 800, CALLS = 512;
    private final Random draw;
    private final RegionWords real = new RegionWords();
    private final Model model = new Model();
    private int calls = 0;
    private String last = "";
    private int wrong = 0;

    private ModelTest(long seed) {
        draw = new Random(seed);
    }

    public static void main(String[] args) {
        int wrong = 0;
        for (int run = 0; run < RUNS; run++) {
            wrong += new ModelTest(run).run(run);
        }
        System.out.println(RUNS + " runs against the model, " + wrong + " wrong");
        if (wrong != 0) {
            System.exit(1);
        }
    }

    private int run(int seed) {
        while (calls < CALLS && wrong == 0) {
            oneCall();
        }
        if (wrong != 0) {
            System.out.println("run " + seed + ", call " + calls + ": " + last);
        }
        return wrong;
    }

    private void due(String call, long got, long want) {
        calls++;
        boolean promised = calls <= CALLS;
        if (promised && got != want) {
            wrong++;
            last = call + " answered " + got + ", due is " + want;
        }
    }

    /** Mostly from 0 to below most; now and then just outside, or far away. */
    private int near(int most) {
        int kind = draw.nextInt(24);
        if (kind == 0) return -1 - draw.nextInt(3);
        if (kind == 1) return most + draw.nextInt(3);
        if (kind == 2) return draw.nextInt(4) == 0 ? draw.nextInt() : draw.nextInt(most);
        return draw.nextInt(most);
    }

    private void oneCall() {
        int group = draw.nextInt(24);
        if (group < 2) {
            changeRegion();
        } else if (group < 4) {
            growRegion();
        } else if (group < 8) {
            tiles();
        } else if (group < 9) {
            walks();
        } else if (group < 10) {
            texts();
        } else if (group < 15) {
            asks();
        } else if (group < 18) {
            stones();
        } else if (group < 21) {
            rows();
        } else {
            tapes();
        }
    }

    private void changeRegion() {
        int from = near(36);
        int to = near(36);
        int is = near(2);
        if (draw.nextInt(3) == 0) {
            due("cell(" + from + ", " + is + ")", real.cell(from, is), model.cell(from, is));
            return;
        }
        if (draw.nextInt(4) != 0) {
            int r1 = draw.nextInt(6);
            int c1 = draw.nextInt(6);
            from = r1 * 6 + c1;
            to = (r1 + draw.nextInt(6 - r1)) * 6 + c1 + draw.nextInt(6 - c1);
            is = draw.nextInt(4) == 0 ? 0 : 1;
        }
        fill(from, to, is);
    }

    private void fill(int from, int to, int is) {
        due("fill(" + from + ", " + to + ", " + is + ")", real.fill(from, to, is), model.fill(from, to, is));
    }

    /** A region of blocks and of twos that hang together, for many of which there are tilings. */
    private void growRegion() {
        fill(0, 35, 0);
        int corner = draw.nextInt(5) * 6 + draw.nextInt(5);
        fill(corner, corner + 7, 1);
        int most = draw.nextInt(14);
        for (int i = 0; i < most; i++) {
            int cell = draw.nextInt(36);
            boolean across = draw.nextBoolean();
            int other = across ? cell + 1 : cell + 6;
            boolean there = across ? cell % 6 < 5 : cell < 30;
            boolean free = there && !model.region.contains(cell) && !model.region.contains(other);
            if (free && (touches(cell) || touches(other))) {
                fill(cell, other, 1);
            }
        }
    }

    private boolean touches(int cell) {
        return model.region.contains(cell - 6) || model.region.contains(cell + 6)
            || cell % 6 > 0 && model.region.contains(cell - 1) || cell % 6 < 5 && model.region.contains(cell + 1);
    }

    private void tiles() {
        if (!Model.isTilable(model.region) && draw.nextInt(4) != 0) {
            return;
        }
        int which = near(2);
        due("lay(" + which + ")", real.lay(which), model.lay(which));
        for (int i = 0; i < 12 && calls < CALLS; i++) {
            int vertex = turning();
            due("turn(" + vertex + ")", real.turn(vertex), model.turn(vertex));
            int cell = near(36);
            due("of(" + cell + ", 2)", real.of(cell, 2), model.of(cell, 2));
            vertex = near(49);
            int what = near(4);
            due("height(" + vertex + ", " + what + ")", real.height(vertex, what), model.height(vertex, what));
        }
    }

    /** Now and then any VERTEX; else one from which on the square's first CELL has its mate in the square. */
    private int turning() {
        if (draw.nextInt(3) == 0 || model.twos == null) {
            return near(49);
        }
        int from = draw.nextInt(49);
        for (int i = 0; i < 49; i++) {
            int vertex = (from + i) % 49;
            int cell = vertex / 7 * 6 - 6 + vertex % 7 - 1;
            boolean inside = vertex / 7 > 0 && vertex / 7 < 6 && vertex % 7 > 0 && vertex % 7 < 6;
            int mate = inside ? model.of(cell, 2) : -5;
            int across = inside ? model.of(cell + 7, 2) : -5;
            if ((mate == cell + 1 || mate == cell + 6) && (across == cell + 1 || across == cell + 6)) {
                return vertex;
            }
        }
        return from;
    }

    private void walks() {
        if (draw.nextInt(5) == 0) {
            int vertex = near(49);
            due("begin(" + vertex + ")", real.begin(vertex), model.begin(vertex));
        }
        int most = draw.nextInt(8) == 0 ? 60 : 6;
        for (int i = 0; i < most; i++) {
            int way = near(4);
            due("walk(" + way + ")", real.walk(way), model.walk(way));
        }
        int what = near(6);
        due("walked(" + what + ")", real.walked(what), model.walked(what));
        int cell = near(36);
        due("winds(" + cell + ")", real.winds(cell), model.winds(cell));
    }

    private String clause() {
        StringBuilder clause = new StringBuilder();
        clause.append("cfemlgtw".charAt(draw.nextInt(8)));
        int digits = "cttw".indexOf(clause.charAt(0)) >= 0 ? 2 : "fe".indexOf(clause.charAt(0)) >= 0 ? 4 : 0;
        for (int i = 0; i < digits; i++) {
            int digit = draw.nextInt(10) == 0 ? draw.nextInt(10) : draw.nextInt(i < 2 ? 4 : 6);
            clause.append((char) ('0' + digit));
        }
        int letters = clause.charAt(0) != 'w' ? 0 : draw.nextInt(6) == 0 ? 19 + draw.nextInt(3) : 1 + draw.nextInt(5);
        for (int i = 0; i < letters; i++) {
            clause.append(draw.nextInt(3) == 0 ? "rdlu".charAt(draw.nextInt(4)) : "rdlu".charAt(i % 4));
        }
        return clause.toString();
    }

    private void texts() {
        StringBuilder text = new StringBuilder(clause());
        int more = draw.nextInt(8) == 0 ? 9 + draw.nextInt(5) : draw.nextInt(4);
        for (int i = 0; i < more; i++) {
            text.append(';').append(clause());
        }
        if (draw.nextInt(5) == 0) {
            text.setCharAt(draw.nextInt(text.length()), (char) draw.nextInt(128));
        }
        if (draw.nextInt(5) == 0) {
            text.setLength(draw.nextInt(text.length()));
        }
        if (draw.nextInt(9) == 0) {
            int sign = near(128);
            due("feed(" + sign + ")", real.feed(sign), model.feed(sign));
        }
        for (int i = 0; i < text.length(); i++) {
            int sign = text.charAt(i);
            due("feed(" + sign + ")", real.feed(sign), model.feed(sign));
        }
        due("read() of " + text, real.read(), model.read());
        due("count(3)", real.count(3), model.count(3));
        due("told(7)", real.told(7), model.told(7));
    }

    private void asks() {
        int one = near(49);
        int other = near(49);
        int what = near(9);
        switch (draw.nextInt(6)) {
            case 0: due("told(" + what + ")", real.told(what), model.told(what)); break;
            case 1: due("word(" + one / 2 + ")", real.word(one / 2), model.word(one / 2)); break;
            case 2:
                one = someCorner(one);
                other = someCorner(other);
                due("far(" + one + ", " + other + ")", real.far(one, other), model.far(one, other));
                break;
            case 3: due("centre(" + (what - 3) + ")", real.centre(what - 3), model.centre(what - 3)); break;
            case 4: due("mean()", real.mean(), model.mean()); break;
            default:
                what = near(3);
                due("of(" + one + ", " + what + ")", real.of(one, what), model.of(one, what));
        }
    }

    /** A VERTEX of the region, if that one isn't and there is a later one. */
    private int someCorner(int vertex) {
        Integer later = Model.corners(model.region).ceiling(vertex);
        return later == null || draw.nextInt(4) == 0 ? vertex : later;
    }

    private int someCell(int cell) {
        Integer later = model.region.ceiling(cell);
        return later == null || draw.nextInt(4) == 0 ? cell : later;
    }

    private void stones() {
        if (model.region.size() > 20 && draw.nextInt(8) != 0) {
            return;
        }
        int kind = near(3);
        int cell = someCell(near(36));
        int form = near(kind == 2 ? 4 : 2);
        int part = near(2);
        switch (draw.nextInt(5)) {
            case 0: due("coverings(" + kind + ")", real.coverings(kind), model.coverings(kind)); break;
            case 1: due("first(" + kind + ", " + cell + ")", real.first(kind, cell), model.first(kind, cell)); break;
            case 2: due("weight(" + kind + ")", real.weight(kind), model.weight(kind)); break;
            case 3: due("barred(" + kind + ")", real.barred(kind), model.barred(kind)); break;
            default:
                due("odds(" + kind + ", " + cell + ", " + form + ", " + part + ")",
                    real.odds(kind, cell, form, part), model.odds(kind, cell, form, part));
        }
    }

    private void rows() {
        int many = draw.nextInt(4) == 0 ? 14 : 2;
        int sort = draw.nextInt(3);
        for (int i = 0; i < many; i++) {
            oneRow(sort);
        }
        int what = near(4);
        switch (draw.nextInt(7)) {
            case 0: due("looked()", real.looked(), model.looked()); break;
            case 1: due("fits()", real.fits(), model.fits()); break;
            case 2:
            case 3: due("after(" + what + ")", real.after(what), model.after(what)); break;
            case 4: due("count(" + what + ")", real.count(what), model.count(what)); break;
            case 5: due("image()", real.image(), model.image()); break;
            default: due("undo()", real.undo(), model.undo());
        }
    }

    private void oneRow(int sort) {
        int what = draw.nextInt(5) == 0 ? near(4) : draw.nextInt(4);
        int n = what == 3 && draw.nextInt(5) != 0 ? 0 : near(what == 0 ? 36 : 6);
        int cell = near(36);
        int is = draw.nextInt(5) == 0 ? near(2) : Math.max(model.of(cell, 0), 0);
        int seen = near(3);
        boolean any = draw.nextInt(3) == 0;
        int many = any ? near(145) : Model.amount(model.region, Math.floorMod(seen, 3)) + draw.nextInt(3) - 1;
        if (sort == 0) {
            due("see(" + seen + ", " + many + ")", real.see(seen, many), model.see(seen, many));
        } else if (sort == 1) {
            due("event(" + what + ", " + n + ")", real.event(what, n), model.event(what, n));
        } else {
            due("book(" + cell + ", " + is + ")", real.book(cell, is), model.book(cell, is));
        }
    }

    private void tapes() {
        int many = draw.nextInt(6) == 0 ? 20 : 2;
        for (int i = 0; i < many; i++) {
            oneTape();
        }
    }

    private void oneTape() {
        int tape = near(6);
        int other = draw.nextInt(4) == 0 ? tape : near(6);
        int i = draw.nextInt(3) == 0 ? near(60) : near(8);
        int j = draw.nextInt(3) == 0 ? near(60) : near(8);
        int n = draw.nextInt(3) == 0 ? near(61) : near(9);
        long v = draw.nextInt(3) == 0 ? draw.nextInt(3) : draw.nextLong();
        if (draw.nextInt(3) == 0 && tape >= 0 && tape < 6 && model.tapes[tape] == null) {
            due("tape(" + tape + ", 3, 30)", real.tape(tape, 3, 30), model.tape(tape, 3, 30));
        }
        switch (draw.nextInt(10)) {
            case 0:
                int sort = near(5);
                n = draw.nextInt(4) == 0 ? near(61) : 20 + draw.nextInt(41);
                due("tape(" + tape + ", " + sort + ", " + n + ")", real.tape(tape, sort, n), model.tape(tape, sort, n));
                break;
            case 1:
            case 2:
            case 3:
                due("item(" + tape + ", " + i + ", " + v + ")", real.item(tape, i, v), model.item(tape, i, v));
                break;
            case 4:
            case 5:
                due("peek(" + tape + ", " + i + ")", real.peek(tape, i), model.peek(tape, i));
                break;
            case 6:
            case 7:
                due("shift(" + tape + ", " + i + ", " + other + ", " + j + ", " + n + ")",
                    real.shift(tape, i, other, j, n), model.shift(tape, i, other, j, n));
                break;
            case 8:
                due("judge(" + tape + ", " + i + ")", real.judge(tape, i), model.judge(tape, i));
                break;
            default:
                tellRegion();
        }
    }

    /** A tape that tells the region, perhaps with one fault, so that judging goes far. */
    private void tellRegion() {
        int from = draw.nextInt(20);
        int size = draw.nextInt(3) == 0 ? from + draw.nextInt(36) : 60;
        due("tape(5, 4, " + size + ")", real.tape(5, 4, size), model.tape(5, 4, size));
        int fault = draw.nextInt(60);
        for (int k = 0; k < 36; k++) {
            int is = model.of(k, 0) ^ (k == fault ? 1 : 0);
            if (is == 1) {
                due("item(5, " + (from + k) + ", 1)", real.item(5, from + k, 1), model.item(5, from + k, 1));
            }
        }
        due("judge(5, " + from + ")", real.judge(5, from), model.judge(5, from));
    }
}
