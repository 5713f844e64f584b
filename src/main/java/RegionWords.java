import java.util.Arrays;

/** Regions of a ground of six rows and six columns, told by the words of their edges. */
public final class RegionWords {
    public static final int NONE = -1, BAD = -2, STATE = -3, FULL = -4;
    public static final long NO = Long.MIN_VALUE;

    private static final int NOT = -5, NOTHING = -11, CAST = -12, PLACE = -13, SIZE = -14;
    private static final int HEIGHT_BASE = 1000, WIND_BASE = 100, ENDED = 100, FAULT_BASE = -10;
    private static final int TAPES = 6, BOOLEANS = 4, LONGEST = 60;
    private static final int MOST_COVERINGS = 1000000;

    private final State now = new State();
    private final State kept = new State();
    private boolean imaged = false;
    private final Outline outline = new Outline();
    private final Stones stones = new Stones();
    private final Script script = new Script();
    private final Tape[] tapes = new Tape[TAPES];

    public RegionWords() {
        for (int i = 0; i < TAPES; i++) {
            tapes[i] = new Tape();
        }
    }

    // ---- the region

    public int cell(int cell, int is) {
        if (!Ground.isCell(cell)) {
            return NONE;
        }
        if (!isBit(is)) {
            return BAD;
        }
        boolean was = Ground.holds(now.region, cell);
        now.become(Ground.with(now.region, 1L << cell, is == 1));
        return bit(was);
    }

    public int fill(int from, int to, int is) {
        if (!Ground.isCell(from) || !Ground.isCell(to)) {
            return NONE;
        }
        long block = Ground.block(from, to);
        if (!isBit(is) || block == 0L) {
            return BAD;
        }
        now.become(Ground.with(now.region, block, is == 1));
        return Long.bitCount(now.region);
    }

    public int lay(int which) {
        if (!isBit(which)) {
            return NONE;
        }
        return now.layDown(outline, which == 1) ? now.rank(outline) : STATE;
    }

    public int turn(int vertex) {
        if (!Ground.isVertex(vertex)) {
            return NONE;
        }
        return now.turnAt(vertex) ? now.rank(outline) : STATE;
    }

    public int begin(int vertex) {
        if (!Ground.isVertex(vertex)) {
            return NONE;
        }
        int had = now.path.length;
        now.path.restart(vertex);
        return had;
    }

    public int walk(int way) {
        if (way < 0 || way > 3) {
            return BAD;
        }
        if (Ground.next(now.path.end(), way) < 0) {
            return STATE;
        }
        return now.path.append(way) ? now.path.length : FULL;
    }

    public int feed(int sign) {
        if (sign < 0 || sign > 127) {
            return BAD;
        }
        return script.append(sign) ? script.size : FULL;
    }

    public int read() {
        int fault = script.fault();
        int done = 0;
        for (int i = 0; fault < 0 && i < script.clauses; i++) {
            if (carriedOut(script.start(i))) {
                done++;
            }
        }
        script.clear();
        return fault < 0 ? done : FAULT_BASE - fault;
    }

    private boolean carriedOut(int at) {
        int one = script.digit(at + 1);
        int two = script.digit(at + 2);
        switch (script.sign(at)) {
            case 'c':
                return toggled(one, two);
            case 'f':
                return blockSet(at, true);
            case 'e':
                return blockSet(at, false);
            case 'm':
                now.become(Ground.mirror(now.region));
                return true;
            case 'l':
                return now.layDown(outline, false);
            case 'g':
                return now.layDown(outline, true);
            case 't':
                return now.turnAt(Ground.vertexAt(one, two));
            default:
                return pathSet(at + 3, Ground.vertexAt(one, two));
        }
    }

    private boolean toggled(int row, int column) {
        int cell = Ground.cellAt(row, column);
        if (cell < 0) {
            return false;
        }
        now.become(now.region ^ (1L << cell));
        return true;
    }

    private boolean blockSet(int at, boolean in) {
        int from = Ground.cellAt(script.digit(at + 1), script.digit(at + 2));
        int to = Ground.cellAt(script.digit(at + 3), script.digit(at + 4));
        long block = Ground.block(from, to);
        if (block == 0L) {
            return false;
        }
        now.become(Ground.with(now.region, block, in));
        return true;
    }

    /** Looks at the whole way first, since a WALK that would leave changes nothing. */
    private boolean pathSet(int at, int vertex) {
        int end = vertex;
        int many = script.letters(at);
        for (int i = 0; i < many && end >= 0; i++) {
            end = Ground.next(end, script.way(at + i));
        }
        if (end < 0) {
            return false;
        }
        now.path.restart(vertex);
        for (int i = 0; i < many; i++) {
            now.path.append(script.way(at + i));
        }
        return true;
    }

    // ---- what is told

    public int of(int cell, int what) {
        if (!Ground.isCell(cell)) {
            return NONE;
        }
        switch (what) {
            case 0:
                return bit(Ground.holds(now.region, cell));
            case 1:
                return bit(Ground.holds(Ground.BLACK_CELLS, cell));
            case 2:
                return now.laid ? now.mate(cell) : NOT;
            default:
                return NONE;
        }
    }

    public int told(int what) {
        if (what >= 0 && what <= 2) {
            return Ground.amount(now.region, what);
        }
        outline.look(now.region);
        switch (what) {
            case 3:
                return bit(outline.simple);
            case 4:
                return bit(outline.tilable);
            case 5:
                return outline.simple ? outline.length : NOT;
            case 6:
                return outline.simple ? outline.total + HEIGHT_BASE : NOT;
            case 7:
                return now.laid ? now.rank(outline) : NOT;
            case 8:
                return outline.tilable ? outline.above(2) : NOT;
            default:
                return NONE;
        }
    }

    public int word(int i) {
        if (i < 0) {
            return NONE;
        }
        outline.look(now.region);
        return outline.simple && i < outline.length ? outline.way(i) : NOT;
    }

    public int height(int vertex, int what) {
        if (!Ground.isVertex(vertex) || what < 0 || what > 3) {
            return NONE;
        }
        outline.look(now.region);
        if (what == 0) {
            return heightOnWord(vertex);
        }
        if (what == 3 ? !now.laid : !outline.tilable) {
            return STATE;
        }
        if (!outline.isCorner(vertex)) {
            return NOT;
        }
        if (what == 3) {
            outline.raise(now);
        }
        return outline.level(vertex, what) + HEIGHT_BASE;
    }

    private int heightOnWord(int vertex) {
        if (!outline.simple || outline.total != 0) {
            return STATE;
        }
        return outline.isOnWord(vertex) ? outline.level(vertex, 0) + HEIGHT_BASE : NOT;
    }

    public int far(int one, int other) {
        if (!Ground.isVertex(one) || !Ground.isVertex(other)) {
            return NONE;
        }
        outline.look(now.region);
        if (!outline.isCorner(one) || !outline.isCorner(other)) {
            return NOT;
        }
        int fewest = outline.fewest(one, other);
        return fewest < 0 ? NOT : fewest;
    }

    public int centre(int what) {
        if (!isBit(what)) {
            return NONE;
        }
        int many = Long.bitCount(now.region);
        if (many == 0) {
            return STATE;
        }
        float sum = 0.0f;
        for (int i = 0; i < Ground.CELLS; i++) {
            if (Ground.holds(now.region, i)) {
                int line = what == 0 ? i / Ground.SIDE : i % Ground.SIDE;
                sum = sum + ((float) line + 0.5f);
            }
        }
        return Bits.ofFloat(sum / (float) many);
    }

    // ---- walks

    public int walked(int what) {
        switch (what) {
            case 0:
                return now.path.length;
            case 1:
                return now.path.start;
            case 2:
                return now.path.end();
            case 3:
                return bit(now.path.isClosed());
            case 4:
                return now.path.shortened();
            case 5:
                return now.path.rise() + HEIGHT_BASE;
            default:
                return NONE;
        }
    }

    public int winds(int cell) {
        if (!Ground.isCell(cell)) {
            return NONE;
        }
        return now.path.isClosed() ? now.path.turnsRound(cell) + WIND_BASE : STATE;
    }

    // ---- stones

    public int coverings(int kind) {
        if (!Stones.isKind(kind)) {
            return NONE;
        }
        stones.start(kind, now.region);
        int many = 0;
        for (int i = 0; i < MOST_COVERINGS && stones.advance(); i++) {
            many++;
        }
        return many;
    }

    public int first(int kind, int cell) {
        if (!Stones.isKind(kind) || !Ground.isCell(cell)) {
            return NONE;
        }
        stones.start(kind, now.region);
        return stones.advance() ? stones.formOver(cell) : NOT;
    }

    public int weight(int kind) {
        if (!Stones.isKind(kind)) {
            return NONE;
        }
        stones.start(kind, now.region);
        float all = 0.0f;
        for (int i = 0; i < MOST_COVERINGS && stones.advance(); i++) {
            all = all + stones.product();
        }
        return Bits.ofFloat(all);
    }

    public int barred(int kind) {
        if (!Stones.isKind(kind)) {
            return NONE;
        }
        int each = kind == Stones.TWOS ? 2 : 3;
        if (Long.bitCount(now.region) % each != 0) {
            return 0;
        }
        if (Stones.coloursBar(kind, now.region)) {
            return 1;
        }
        outline.look(now.region);
        return kind == Stones.TWOS && outline.simple && !outline.tilable ? 2 : NOT;
    }

    // ---- seen, odds

    public int see(int what, int n) {
        if (what == -1) {
            return now.seen.emptied();
        }
        if (what < 0 || what > 2) {
            return NONE;
        }
        if (n < 0 || n > 144) {
            return BAD;
        }
        return now.seen.append(what, n) ? now.seen.size : FULL;
    }

    public long fits() {
        long fitting = 0L;
        for (int i = 0; i < Ground.CELLS; i++) {
            if (isAsSeen(now.region ^ (1L << i))) {
                fitting = fitting | (1L << i);
            }
        }
        return fitting;
    }

    private boolean isAsSeen(long region) {
        for (int i = 0; i < now.seen.size; i++) {
            if (Ground.amount(region, now.seen.one(i)) != now.seen.other(i)) {
                return false;
            }
        }
        return true;
    }

    public long odds(int kind, int cell, int form, int part) {
        if (!Stones.isKind(kind) || !Ground.isCell(cell)) {
            return NO;
        }
        if (form < 0 || form >= Stones.forms(kind) || !isBit(part)) {
            return NO;
        }
        int all = 0;
        int such = 0;
        stones.start(kind, now.region);
        for (int i = 0; i < MOST_COVERINGS && stones.advance(); i++) {
            all++;
            if (stones.formOver(cell) == form) {
                such++;
            }
        }
        int common = commonDivisor(all, such);
        if (common == 0) {
            return NO;
        }
        return part == 0 ? such / common : all / common;
    }

    private static int commonDivisor(int one, int other) {
        int a = one;
        int b = other;
        for (int i = 0; i < 100 && b != 0; i++) {
            int rest = a % b;
            a = b;
            b = rest;
        }
        return a;
    }

    public long mean() {
        outline.look(now.region);
        if (!outline.tilable) {
            return NO;
        }
        int many = 0;
        int sum = 0;
        for (int i = 0; i < Ground.VERTICES; i++) {
            if (outline.isCorner(i)) {
                many++;
                sum = sum + outline.level(i, 1);
            }
        }
        return many == 0 ? NO : Bits.ofDouble((double) sum / (double) many);
    }

    // ---- events, books

    public int event(int what, int n) {
        if (what == -1) {
            return now.events.emptied();
        }
        if (what < 0 || what > 3) {
            return NONE;
        }
        int most = what == 0 ? Ground.CELLS : Ground.SIDE;
        if (what < 3 && (n < 0 || n >= most)) {
            return NONE;
        }
        if (what == 3 && n != 0) {
            return BAD;
        }
        return now.events.append(what, n) ? now.events.size : FULL;
    }

    public int after(int what) {
        if (what < 0 || what > 2) {
            return NONE;
        }
        long region = now.region;
        for (int i = 0; i < now.events.size; i++) {
            region = happened(region, now.events.one(i), now.events.other(i));
        }
        if (what == 0) {
            return Long.bitCount(region);
        }
        outline.look(region);
        return bit(what == 1 ? outline.simple : outline.tilable);
    }

    private static long happened(long region, int what, int n) {
        switch (what) {
            case 0:
                return region ^ (1L << n);
            case 1:
                return region | (Ground.FIRST_ROW << (n * Ground.SIDE));
            case 2:
                return region & ~(Ground.FIRST_COLUMN << n);
            default:
                return Ground.mirror(region);
        }
    }

    public int book(int cell, int is) {
        if (cell == -1) {
            return now.pages.emptied();
        }
        if (!Ground.isCell(cell)) {
            return NONE;
        }
        if (!isBit(is)) {
            return BAD;
        }
        return now.pages.append(cell, is) ? now.pages.size : FULL;
    }

    public int looked() {
        for (int i = 0; i < now.pages.size; i++) {
            if (bit(Ground.holds(now.region, now.pages.one(i))) != now.pages.other(i)) {
                return i;
            }
        }
        return NOT;
    }

    // ---- judging, the image, tapes

    public int judge(int tape, int i) {
        if (!isTape(tape)) {
            return NONE;
        }
        Tape told = tapes[tape];
        if (told.sort == Tape.EMPTY) {
            return ENDED;
        }
        if (told.sort != BOOLEANS) {
            return CAST;
        }
        if (!told.hasPlace(i)) {
            return ENDED;
        }
        for (int k = 0; k < Ground.CELLS; k++) {
            if (!told.hasPlace(i + k)) {
                return ENDED + k;
            }
            if (told.at(i + k) != bit(Ground.holds(now.region, k))) {
                return k;
            }
        }
        return NOT;
    }

    public int image() {
        kept.copy(now);
        imaged = true;
        return Long.bitCount(now.region);
    }

    public int undo() {
        if (!imaged) {
            return STATE;
        }
        now.copy(kept);
        return Long.bitCount(now.region);
    }

    public int count(int what) {
        switch (what) {
            case 0:
                return now.seen.size;
            case 1:
                return now.events.size;
            case 2:
                return now.pages.size;
            case 3:
                return script.size;
            default:
                return BAD;
        }
    }

    public int tape(int tape, int sort, int n) {
        if (!isTape(tape)) {
            return NONE;
        }
        if (sort == Tape.EMPTY) {
            tapes[tape].become(Tape.EMPTY, 0);
            return 1;
        }
        if (sort < 0 || sort > BOOLEANS || n > LONGEST) {
            return BAD;
        }
        if (n < 0) {
            return SIZE;
        }
        tapes[tape].become(sort, n);
        return 1;
    }

    public int item(int tape, int i, long v) {
        if (!isTape(tape)) {
            return NONE;
        }
        if (tapes[tape].sort == Tape.EMPTY) {
            return NOTHING;
        }
        if (!tapes[tape].hasPlace(i)) {
            return PLACE;
        }
        tapes[tape].put(i, v);
        return 1;
    }

    public long peek(int tape, int i) {
        if (!isTape(tape) || !tapes[tape].hasPlace(i)) {
            return NO;
        }
        return tapes[tape].at(i);
    }

    public int shift(int tape, int i, int other, int j, int n) {
        if (!isTape(tape) || !isTape(other)) {
            return NONE;
        }
        Tape from = tapes[tape];
        Tape to = tapes[other];
        if (from.sort == Tape.EMPTY || to.sort == Tape.EMPTY) {
            return NOTHING;
        }
        if (from.sort != to.sort) {
            return CAST;
        }
        if (!from.hasPart(i, n) || !to.hasPart(j, n)) {
            return PLACE;
        }
        to.take(j, from, i, n);
        return n;
    }

    private static boolean isTape(int tape) {
        return tape >= 0 && tape < TAPES;
    }

    private static boolean isBit(int number) {
        return number == 0 || number == 1;
    }

    private static int bit(boolean is) {
        return is ? 1 : 0;
    }

    /** CELLS, VERTICES, STEPS; a region is a long, bit c for CELL c. */
    private static final class Ground {
        static final int SIDE = 6, CELLS = 36, LINE = 7, VERTICES = 49;
        static final long FIRST_ROW = 0x3FL, FIRST_COLUMN = 0x041041041L, BLACK_CELLS = 0xA95A95A95L;
        private static final long NOT_LAST_COLUMN = 0x7DF7DF7DFL;
        private static final long NOT_FIRST_OF_FRAME = 0xFEFEFEFEFEFEFEFEL, NOT_LAST_OF_FRAME = 0x7F7F7F7F7F7F7F7FL;

        static boolean isCell(int cell) {
            return cell >= 0 && cell < CELLS;
        }

        static boolean isVertex(int vertex) {
            return vertex >= 0 && vertex < VERTICES;
        }

        /** The CELL there, or -1. */
        static int cellAt(int row, int column) {
            boolean there = row >= 0 && row < SIDE && column >= 0 && column < SIDE;
            return there ? row * SIDE + column : -1;
        }

        /** The VERTEX there, or -1. */
        static int vertexAt(int row, int column) {
            boolean there = row >= 0 && row < LINE && column >= 0 && column < LINE;
            return there ? row * LINE + column : -1;
        }

        static boolean holds(long region, int cell) {
            return isCell(cell) && ((region >>> cell) & 1L) != 0L;
        }

        static long with(long region, long some, boolean in) {
            return in ? region | some : region & ~some;
        }

        /** All CELLS from the rows and columns of one CELL to those of the other; 0: one isn't there, or is less. */
        static long block(int from, int to) {
            long all = 0L;
            if (!isCell(from) || !isCell(to)) {
                return all;
            }
            for (int row = from / SIDE; row <= to / SIDE && row < SIDE; row++) {
                for (int column = from % SIDE; column <= to % SIDE && column < SIDE; column++) {
                    all = all | (1L << (row * SIDE + column));
                }
            }
            return all;
        }

        static long mirror(long region) {
            long all = 0L;
            for (int i = 0; i < CELLS; i++) {
                if (holds(region, i)) {
                    all = all | (1L << (i / SIDE * SIDE + SIDE - 1 - i % SIDE));
                }
            }
            return all;
        }

        /** How many: 0 CELLS, 1 BLACK ones, 2 EDGES. */
        static int amount(long region, int what) {
            if (what == 0) {
                return Long.bitCount(region);
            }
            if (what == 1) {
                return Long.bitCount(region & BLACK_CELLS);
            }
            int beside = Long.bitCount(region & (region >>> 1) & NOT_LAST_COLUMN);
            int below = Long.bitCount(region & (region >>> SIDE));
            return 4 * Long.bitCount(region) - 2 * (beside + below);
        }

        static boolean isSimple(long region) {
            long framed = 0L;
            for (int row = 0; row < SIDE; row++) {
                long line = (region >>> (row * SIDE)) & FIRST_ROW;
                framed = framed | (line << ((row + 1) * 8 + 1));
            }
            return framed != 0L && hangsTogether(framed) && hangsTogether(~framed);
        }

        /** Of the ground and what lies round it, eight rows and columns of bits. */
        private static boolean hangsTogether(long framed) {
            long reached = framed & -framed;
            for (int i = 0; i < 64; i++) {
                long beside = ((reached << 1) & NOT_FIRST_OF_FRAME) | ((reached >>> 1) & NOT_LAST_OF_FRAME);
                reached = (reached | beside | (reached << 8) | (reached >>> 8)) & framed;
            }
            return reached == framed;
        }

        /** The VERTEX behind a STEP (0 r, 1 d, 2 l, 3 u), or -1. */
        static int next(int vertex, int way) {
            if (!isVertex(vertex)) {
                return -1;
            }
            int down = way == 1 ? 1 : way == 3 ? -1 : 0;
            int right = way == 0 ? 1 : way == 2 ? -1 : 0;
            return vertexAt(vertex / LINE + down, vertex % LINE + right);
        }

        /** What a STEP that does not leave adds to its VERTEX. */
        static int stride(int way) {
            return way == 0 ? 1 : way == 1 ? LINE : way == 2 ? -1 : -LINE;
        }

        /** The CELL on the left of a STEP, or -1. */
        static int leftOf(int vertex, int way) {
            int up = way == 0 || way == 3 ? 1 : 0;
            int left = way == 2 || way == 3 ? 1 : 0;
            return cellAt(vertex / LINE - up, vertex % LINE - left);
        }

        /** The CELL on the right of a STEP, or -1. */
        static int rightOf(int vertex, int way) {
            int up = way == 2 || way == 3 ? 1 : 0;
            int left = way == 1 || way == 2 ? 1 : 0;
            return cellAt(vertex / LINE - up, vertex % LINE - left);
        }

        /** HEIGHT of a STEP: at a VERTEX the colours go by turns, beyond the ground, too, so columns and rows differ. */
        static int rise(int vertex, int way) {
            boolean even = ((vertex / LINE + vertex % LINE) & 1) == 0;
            boolean upright = way == 1 || way == 3;
            return even == upright ? 1 : -1;
        }
    }

    /** What changes by calls and is kept by THE IMAGE. */
    private static final class State {
        long region = 0L;
        boolean laid = false;
        private final int[] mates = new int[Ground.CELLS];
        final Path path = new Path();
        final Rows seen = new Rows(4);
        final Rows events = new Rows(8);
        final Rows pages = new Rows(8);

        void become(long other) {
            if (other != region) {
                region = other;
                laid = false;
            }
        }

        void copy(State other) {
            region = other.region;
            laid = other.laid;
            System.arraycopy(other.mates, 0, mates, 0, Ground.CELLS);
            path.copy(other.path);
            seen.copy(other.seen);
            events.copy(other.events);
            pages.copy(other.pages);
        }

        int mate(int cell) {
            return Ground.isCell(cell) ? mates[cell] : NOT;
        }

        boolean areTwo(int one, int other) {
            return laid && Ground.isCell(one) && Ground.isCell(other) && mates[one] == other;
        }

        boolean layDown(Outline outline, boolean greatest) {
            outline.look(region);
            if (!outline.tilable) {
                return false;
            }
            Arrays.fill(mates, NOT);
            int what = greatest ? 2 : 1;
            for (int i = 0; i < Ground.CELLS; i++) {
                int corner = Ground.vertexAt(i / Ground.SIDE + 1, i % Ground.SIDE + 1);
                int right = Ground.cellAt(i / Ground.SIDE, i % Ground.SIDE + 1);
                int below = Ground.cellAt(i / Ground.SIDE + 1, i % Ground.SIDE);
                if (isInside(i, right) && outline.isSplit(corner, corner - Ground.LINE, what)) {
                    join(i, right);
                }
                if (isInside(i, below) && outline.isSplit(corner, corner - 1, what)) {
                    join(i, below);
                }
            }
            laid = true;
            return true;
        }

        private boolean isInside(int one, int other) {
            return Ground.holds(region, one) && Ground.holds(region, other);
        }

        private void join(int one, int other) {
            if (Ground.isCell(one) && Ground.isCell(other)) {
                mates[one] = other;
                mates[other] = one;
            }
        }

        boolean turnAt(int vertex) {
            if (!Ground.isVertex(vertex)) {
                return false;
            }
            int row = vertex / Ground.LINE;
            int column = vertex % Ground.LINE;
            int upperLeft = Ground.cellAt(row - 1, column - 1);
            int upperRight = Ground.cellAt(row - 1, column);
            int lowerLeft = Ground.cellAt(row, column - 1);
            int lowerRight = Ground.cellAt(row, column);
            if (areTwo(upperLeft, upperRight) && areTwo(lowerLeft, lowerRight)) {
                join(upperLeft, lowerLeft);
                join(upperRight, lowerRight);
                return true;
            }
            if (areTwo(upperLeft, lowerLeft) && areTwo(upperRight, lowerRight)) {
                join(upperLeft, upperRight);
                join(lowerLeft, lowerRight);
                return true;
            }
            return false;
        }

        /** RANK of the TILING that is laid. */
        int rank(Outline outline) {
            outline.look(region);
            outline.raise(this);
            return outline.above(3);
        }
    }

    /** The WALK. */
    private static final class Path {
        private static final int MOST = 40;
        int start = 0;
        int length = 0;
        private final int[] ways = new int[MOST];
        private final int[] rest = new int[MOST];

        void restart(int vertex) {
            start = vertex;
            length = 0;
        }

        boolean append(int way) {
            if (length < 0 || length >= MOST) {
                return false;
            }
            ways[length] = way;
            length++;
            return true;
        }

        void copy(Path other) {
            start = other.start;
            length = other.length;
            System.arraycopy(other.ways, 0, ways, 0, MOST);
        }

        int end() {
            int vertex = start;
            for (int i = 0; i < length && i < MOST; i++) {
                vertex = Ground.next(vertex, ways[i]);
            }
            return vertex;
        }

        boolean isClosed() {
            return end() == start;
        }

        int shortened() {
            int many = 0;
            for (int i = 0; i < length && i < MOST; i++) {
                if (many > 0 && many <= MOST && isBack(rest[many - 1], ways[i])) {
                    many--;
                } else if (many < MOST) {
                    rest[many] = ways[i];
                    many++;
                }
            }
            return many;
        }

        private static boolean isBack(int one, int other) {
            return one - other == 2 || other - one == 2;
        }

        int rise() {
            int sum = 0;
            int vertex = start;
            for (int i = 0; i < length && i < MOST; i++) {
                sum = sum + Ground.rise(vertex, ways[i]);
                vertex = Ground.next(vertex, ways[i]);
            }
            return sum;
        }

        int turnsRound(int cell) {
            int turns = 0;
            int vertex = start;
            for (int i = 0; i < length && i < MOST; i++) {
                int next = Ground.next(vertex, ways[i]);
                int upper = Math.min(vertex, next);
                boolean passes = upper / Ground.LINE == cell / Ground.SIDE && upper % Ground.LINE > cell % Ground.SIDE;
                if (passes && ways[i] == 1) {
                    turns++;
                }
                if (passes && ways[i] == 3) {
                    turns--;
                }
                vertex = next;
            }
            return turns;
        }
    }

    /** Rows of two numbers, told by hand. */
    private static final class Rows {
        int size = 0;
        private final int[] ones;
        private final int[] others;

        Rows(int most) {
            int many = most < 0 ? 0 : most;
            ones = new int[many];
            others = new int[many];
        }

        int emptied() {
            size = 0;
            return size;
        }

        boolean append(int one, int other) {
            if (size < 0 || size >= ones.length || size >= others.length) {
                return false;
            }
            ones[size] = one;
            others[size] = other;
            size++;
            return true;
        }

        int one(int i) {
            return i >= 0 && i < ones.length ? ones[i] : 0;
        }

        int other(int i) {
            return i >= 0 && i < others.length ? others[i] : 0;
        }

        void copy(Rows from) {
            emptied();
            for (int i = 0; i < from.size; i++) {
                append(from.one(i), from.other(i));
            }
        }
    }

    /** The text of a set-up, sign by sign. */
    private static final class Script {
        private static final int MOST = 100, MOST_CLAUSES = 12, MOST_LETTERS = 20;
        int size = 0;
        int clauses = 0;
        private final int[] signs = new int[MOST];
        private final int[] starts = new int[MOST_CLAUSES];

        boolean append(int sign) {
            if (size < 0 || size >= MOST) {
                return false;
            }
            signs[size] = sign;
            size++;
            return true;
        }

        void clear() {
            size = 0;
        }

        /** The sign there, or -1. */
        int sign(int at) {
            return at >= 0 && at < size && at < MOST ? signs[at] : -1;
        }

        /** The digit there, or -1. */
        int digit(int at) {
            int sign = sign(at);
            return sign >= '0' && sign <= '9' ? sign - '0' : -1;
        }

        /** The way that the letter there tells, or -1. */
        int way(int at) {
            switch (sign(at)) {
                case 'r':
                    return 0;
                case 'd':
                    return 1;
                case 'l':
                    return 2;
                case 'u':
                    return 3;
                default:
                    return -1;
            }
        }

        int letters(int at) {
            int many = 0;
            for (int i = 0; i < MOST_LETTERS && way(at + i) >= 0; i++) {
                many++;
            }
            return many;
        }

        int start(int clause) {
            return clause >= 0 && clause < MOST_CLAUSES ? starts[clause] : 0;
        }

        /** The FAULT, or -1; without it the CLAUSES' starts are known. */
        int fault() {
            clauses = 0;
            int at = 0;
            for (int i = 0; i < MOST_CLAUSES; i++) {
                int wanted = digitsOf(sign(at));
                if (wanted < 0) {
                    return at;
                }
                starts[i] = at;
                clauses = i + 1;
                boolean walks = sign(at) == 'w';
                at++;
                for (int k = 0; k < wanted; k++) {
                    if (digit(at) < 0) {
                        return at;
                    }
                    at++;
                }
                if (walks && letters(at) == 0) {
                    return at;
                }
                at = walks ? at + letters(at) : at;
                if (at == size) {
                    return -1;
                }
                if (sign(at) != ';' || clauses == MOST_CLAUSES) {
                    return at;
                }
                at++;
            }
            return at;
        }

        /** How many digits a CLAUSE that begins so has; -1: none does. */
        private static int digitsOf(int sign) {
            switch (sign) {
                case 'c':
                case 't':
                case 'w':
                    return 2;
                case 'f':
                case 'e':
                    return 4;
                case 'm':
                case 'l':
                case 'g':
                    return 0;
                default:
                    return -1;
            }
        }
    }

    /** WORD, HEIGHTS, LOW and HIGH of a region; kept till another region is looked at. */
    private static final class Outline {
        private static final int BACK = 4, EDGE = 8;
        /** Beyond any HEIGHT: on WORD, and FAR, there are fewer than 50 STEPS. */
        private static final int BEYOND = 1000;
        private boolean known = false;
        private long region = 0L;
        boolean simple = false;
        boolean tilable = false;
        int length = 0;
        int total = 0;
        private long onWord = 0L;
        private long corners = 0L;
        private final int[] steps = new int[Ground.VERTICES];
        private final int[] ways = new int[Ground.VERTICES];
        private final int[] wordVertices = new int[Ground.VERTICES];
        private final int[] wordHeights = new int[Ground.VERTICES];
        private final int[] lows = new int[Ground.VERTICES];
        private final int[] highs = new int[Ground.VERTICES];
        private final int[] raised = new int[Ground.VERTICES];
        private final int[] distances = new int[Ground.VERTICES];
        private final int[] queue = new int[Ground.VERTICES];

        void look(long other) {
            if (known && region == other) {
                return;
            }
            known = true;
            region = other;
            simple = Ground.isSimple(region);
            findSteps();
            length = 0;
            total = 0;
            onWord = 0L;
            if (simple) {
                goRound();
            }
            tilable = simple && total == 0 && findHighs();
            if (tilable) {
                findLows();
            }
        }

        int way(int i) {
            return i >= 0 && i < length && i < Ground.VERTICES ? ways[i] : NOT;
        }

        boolean isOnWord(int vertex) {
            return Ground.isVertex(vertex) && ((onWord >>> vertex) & 1L) != 0L;
        }

        boolean isCorner(int vertex) {
            return Ground.isVertex(vertex) && ((corners >>> vertex) & 1L) != 0L;
        }

        /** Of a VERTEX: 0 HEIGHT on WORD, 1 LOW, 2 HIGH, 3 what raise() found. */
        int level(int vertex, int what) {
            if (!Ground.isVertex(vertex)) {
                return 0;
            }
            switch (what) {
                case 0:
                    return wordHeights[vertex];
                case 1:
                    return lows[vertex];
                case 2:
                    return highs[vertex];
                default:
                    return raised[vertex];
            }
        }

        /** Whether a two lies over the side between these VERTICES. */
        boolean isSplit(int one, int other, int what) {
            return Math.abs(level(one, what) - level(other, what)) == 3;
        }

        /** How many TURNS these levels are above LOW. */
        int above(int what) {
            int sum = 0;
            for (int i = 0; i < Ground.VERTICES; i++) {
                if (isCorner(i)) {
                    sum = sum + level(i, what) - lows[i];
                }
            }
            return sum / 4;
        }

        /** Which ways from each VERTEX go by a CELL: UP STEPS, UP STEPS gone back, STEPS of the edge. */
        private void findSteps() {
            corners = 0L;
            for (int i = 0; i < Ground.VERTICES; i++) {
                steps[i] = 0;
                for (int way = 0; way < 4; way++) {
                    boolean left = Ground.holds(region, Ground.leftOf(i, way));
                    boolean right = Ground.holds(region, Ground.rightOf(i, way));
                    if (left || right) {
                        corners = corners | (1L << i);
                        steps[i] = steps[i] | (1 << (Ground.rise(i, way) > 0 ? way : way + BACK));
                    }
                    if (right && !left) {
                        steps[i] = steps[i] | (1 << (way + EDGE));
                    }
                }
            }
        }

        private static boolean isAmong(int some, int way, int sort) {
            return ((some >>> (way + sort)) & 1) != 0;
        }

        /** The edge of a SIMPLE region meets no VERTEX twice: just one way goes on. */
        private void goRound() {
            int least = Long.bitCount((region & -region) - 1L);
            int vertex = Ground.vertexAt(least / Ground.SIDE, least % Ground.SIDE);
            for (int i = 0; i < Ground.VERTICES && Ground.isVertex(vertex) && !isOnWord(vertex); i++) {
                int way = 0;
                while (way < 3 && !isAmong(steps[vertex], way, EDGE)) {
                    way++;
                }
                wordVertices[i] = vertex;
                wordHeights[vertex] = total;
                ways[i] = way;
                onWord = onWord | (1L << vertex);
                length = i + 1;
                total = total + Ground.rise(vertex, way);
                vertex = vertex + Ground.stride(way);
            }
        }

        /** HIGH of all VERTICES; whether of no two on WORD HEIGHT differs by more than FAR. */
        private boolean findHighs() {
            Arrays.fill(highs, BEYOND);
            for (int i = 0; i < length && i < Ground.VERTICES; i++) {
                int base = level(wordVertices[i], 0);
                spread(wordVertices[i], 0);
                for (int k = 0; k < Ground.VERTICES; k++) {
                    if (distances[k] >= 0) {
                        highs[k] = Math.min(highs[k], base + distances[k]);
                    }
                    if (isOnWord(k) && wordHeights[k] > highs[k]) {
                        return false;
                    }
                }
            }
            return true;
        }

        private void findLows() {
            Arrays.fill(lows, -BEYOND);
            for (int i = 0; i < length && i < Ground.VERTICES; i++) {
                int base = level(wordVertices[i], 0);
                spread(wordVertices[i], BACK);
                for (int k = 0; k < Ground.VERTICES; k++) {
                    if (distances[k] >= 0) {
                        lows[k] = Math.max(lows[k], base - distances[k]);
                    }
                }
            }
        }

        /** FAR, or -1: one does not come there. */
        int fewest(int one, int other) {
            spread(one, 0);
            return Ground.isVertex(other) ? distances[other] : -1;
        }

        /** How many STEPS of that sort lead from one VERTEX to each; -1: none do. */
        private void spread(int from, int sort) {
            Arrays.fill(distances, -1);
            if (!Ground.isVertex(from)) {
                return;
            }
            distances[from] = 0;
            queue[0] = from;
            int filled = 1;
            for (int i = 0; i < filled && i < Ground.VERTICES; i++) {
                int vertex = queue[i];
                int some = Ground.isVertex(vertex) ? steps[vertex] : 0;
                for (int way = 0; way < 4; way++) {
                    int next = vertex + Ground.stride(way);
                    boolean fresh = isAmong(some, way, sort) && Ground.isVertex(next) && distances[next] < 0;
                    if (fresh && filled < Ground.VERTICES) {
                        distances[next] = distances[vertex] + 1;
                        queue[filled] = next;
                        filled++;
                    }
                }
            }
        }

        /** HEIGHTS by the TILING laid: those on WORD are known, the others follow by UP STEPS. */
        void raise(State state) {
            System.arraycopy(wordHeights, 0, raised, 0, Ground.VERTICES);
            long settled = onWord;
            for (int round = 0; round < Ground.VERTICES && settled != corners; round++) {
                for (int i = 0; i < Ground.VERTICES; i++) {
                    if (((settled >>> i) & 1L) != 0L) {
                        settled = settled | raiseBehind(i, settled, state);
                    }
                }
            }
        }

        /** The VERTICES that are settled now, too. */
        private long raiseBehind(int vertex, long settled, State state) {
            long more = 0L;
            if (!Ground.isVertex(vertex)) {
                return more;
            }
            for (int way = 0; way < 4; way++) {
                int next = vertex + Ground.stride(way);
                boolean up = isAmong(steps[vertex], way, 0) && Ground.isVertex(next);
                if (up && ((settled >>> next) & 1L) == 0L) {
                    boolean two = state.areTwo(Ground.leftOf(vertex, way), Ground.rightOf(vertex, way));
                    raised[next] = raised[vertex] + (two ? -3 : 1);
                    more = more | (1L << next);
                }
            }
            return more;
        }
    }

    /** COVERINGS, one behind the other. */
    private static final class Stones {
        static final int TWOS = 0, BARS = 1, ELLS = 2;
        private static final int MOST_STONES = 18, MOST_TRIES = 1000000;
        /** Of each KIND and FORM the CELLS as bits, the least CELL being 0. */
        private static final long[] SHAPES = {3L, 65L, 7L, 4161L, 67L, 131L, 193L, 97L};
        /** How many columns there must be right and left of the least CELL. */
        private static final int[] RIGHT = {1, 0, 2, 0, 1, 1, 1, 0};
        private static final int[] LEFT = {0, 0, 0, 0, 0, 0, 0, 1};

        private int kind = 0;
        private int depth = -1;
        private boolean found = false;
        private final long[] open = new long[MOST_STONES + 1];
        private final int[] tried = new int[MOST_STONES + 1];
        private final float[] products = new float[MOST_STONES + 1];

        static boolean isKind(int kind) {
            return kind >= TWOS && kind <= ELLS;
        }

        static int forms(int kind) {
            return kind == ELLS ? 4 : 2;
        }

        void start(int which, long region) {
            kind = which;
            depth = 0;
            found = false;
            open[0] = region;
            tried[0] = -1;
            products[0] = 1.0f;
        }

        /** Whether there is one COVERING more, which is looked at then. */
        boolean advance() {
            if (found) {
                found = false;
                depth--;
            }
            for (int i = 0; i < MOST_TRIES && depth >= 0 && depth <= MOST_STONES; i++) {
                if (open[depth] == 0L) {
                    found = true;
                    return true;
                }
                tryNext();
            }
            return false;
        }

        /** The next FORM for the least CELL not yet covered; behind the last one the STONE ahead goes on. */
        private void tryNext() {
            if (depth < 0 || depth > MOST_STONES) {
                return;
            }
            int form = tried[depth] + 1;
            if (form >= forms(kind)) {
                depth--;
                return;
            }
            tried[depth] = form;
            long stone = stoneAt(form, open[depth]);
            if (stone != 0L && depth < MOST_STONES) {
                open[depth + 1] = open[depth] & ~stone;
                tried[depth + 1] = -1;
                products[depth + 1] = products[depth] * (form == 0 || form == 3 ? 0.75f : 1.25f);
                depth++;
            }
        }

        /** The STONE's CELLS; 0: it would lie on others. */
        private long stoneAt(int form, long rest) {
            int which = kind * 2 + form;
            if (which < 0 || which >= SHAPES.length || which >= RIGHT.length || which >= LEFT.length) {
                return 0L;
            }
            int least = Long.bitCount((rest & -rest) - 1L);
            int column = least % Ground.SIDE;
            if (column + RIGHT[which] >= Ground.SIDE || column < LEFT[which]) {
                return 0L;
            }
            long stone = SHAPES[which] << least;
            return (rest & stone) == stone ? stone : 0L;
        }

        /** The FORM of the STONE in which a CELL is. */
        int formOver(int cell) {
            for (int i = 0; i < depth && i < MOST_STONES; i++) {
                if (Ground.holds(open[i] & ~open[i + 1], cell)) {
                    return tried[i];
                }
            }
            return NOT;
        }

        /** WEIGHT of the COVERING. */
        float product() {
            return depth >= 0 && depth <= MOST_STONES ? products[depth] : 0.0f;
        }

        static boolean coloursBar(int kind, long region) {
            if (kind == TWOS) {
                return Long.bitCount(region & Ground.BLACK_CELLS) * 2 != Long.bitCount(region);
            }
            return kind == BARS && !(isEven(region) && isEven(Ground.mirror(region)));
        }

        /** Whether row and column, together, leave 0, 1, 2 by 3 equally often. */
        private static boolean isEven(long region) {
            int zeros = 0;
            int ones = 0;
            for (int i = 0; i < Ground.CELLS; i++) {
                int rest = (i / Ground.SIDE + i % Ground.SIDE) % 3;
                boolean in = Ground.holds(region, i);
                zeros = in && rest == 0 ? zeros + 1 : zeros;
                ones = in && rest == 1 ? ones + 1 : ones;
            }
            return zeros == ones && zeros + ones + ones == Long.bitCount(region);
        }
    }

    /** Floats and doubles told by their bits. */
    private static final class Bits {
        /** Of a float that is 0 or more, and not so small that its bits have another form. */
        static int ofFloat(float number) {
            if (number <= 0.0f) {
                return 0;
            }
            float rest = number;
            int exponent = 127;
            for (int i = 0; i < 128 && rest >= 2.0f; i++) {
                rest = rest * 0.5f;
                exponent++;
            }
            for (int i = 0; i < 126 && rest < 1.0f; i++) {
                rest = rest * 2.0f;
                exponent--;
            }
            return (exponent << 23) | (int) ((rest - 1.0f) * 8388608.0f);
        }

        /** Of a double that is 0, or not so small that its bits have another form. */
        static long ofDouble(double number) {
            if (number == 0.0) {
                return 0L;
            }
            long sign = number < 0.0 ? 1L << 63 : 0L;
            double rest = number < 0.0 ? -number : number;
            long exponent = 1023L;
            for (int i = 0; i < 1024 && rest >= 2.0; i++) {
                rest = rest * 0.5;
                exponent++;
            }
            for (int i = 0; i < 1022 && rest < 1.0; i++) {
                rest = rest * 2.0;
                exponent--;
            }
            return sign | (exponent << 52) | (long) ((rest - 1.0) * 4503599627370496.0);
        }
    }

    /** A row of items of one sort, held as longs, or nothing. */
    private static final class Tape {
        static final int EMPTY = -1;
        int sort = EMPTY;
        private int size = 0;
        private final long[] items = new long[LONGEST];

        void become(int other, int n) {
            sort = other;
            size = n;
            Arrays.fill(items, 0L);
        }

        boolean hasPlace(int i) {
            return i >= 0 && i < size && i < LONGEST;
        }

        boolean hasPart(int i, int n) {
            return i >= 0 && n >= 0 && i <= size && n <= size - i;
        }

        long at(int i) {
            return hasPlace(i) ? items[i] : 0L;
        }

        void put(int i, long v) {
            if (hasPlace(i)) {
                items[i] = narrowed(v);
            }
        }

        private long narrowed(long v) {
            switch (sort) {
                case 0:
                    return (byte) v;
                case 1:
                    return (short) v;
                case 2:
                    return (int) v;
                case BOOLEANS:
                    return v != 0L ? 1L : 0L;
                default:
                    return v;
            }
        }

        void take(int j, Tape from, int i, int n) {
            if (hasPart(j, n) && from.hasPart(i, n)) {
                System.arraycopy(from.items, i, items, j, n);
            }
        }
    }
}
