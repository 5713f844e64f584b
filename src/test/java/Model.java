import java.util.ArrayList;
import java.util.Arrays;
import java.util.List;
import java.util.TreeMap;
import java.util.TreeSet;

/** The document once more, as plainly as the Java library lets it be said: what the class is held against. */
final class Model {
    static final int NONE = -1, BAD = -2, STATE = -3, FULL = -4, NOT = -5;
    static final long NO = Long.MIN_VALUE;
    static final int[][] MOVES = {{0, 1}, {1, 0}, {0, -1}, {-1, 0}};
    static final int FAR_OFF = 1000000;

    TreeSet<Integer> region = new TreeSet<>();
    TreeMap<Integer, Integer> twos = null;
    int start = 0;
    List<Integer> steps = new ArrayList<>();
    List<int[]> seen = new ArrayList<>();
    List<int[]> events = new ArrayList<>();
    List<int[]> pages = new ArrayList<>();
    StringBuilder text = new StringBuilder();
    final Object[] tapes = new Object[6];
    Model kept = null;

    // ---- geometry, by doubled coordinates

    static boolean isCell(int cell) {
        return 0 <= cell && cell <= 35;
    }

    static boolean isVertex(int vertex) {
        return 0 <= vertex && vertex <= 48;
    }

    /** Row and column of what lies beside a step: side 1 left, -1 right. */
    static int[] beside(int vertex, int way, int side) {
        int dr = MOVES[way][0];
        int dc = MOVES[way][1];
        int middleRow = 2 * (2 * (vertex / 7) + dr);
        int middleColumn = 2 * (2 * (vertex % 7) + dc);
        int row = middleRow / 2 + side * -dc;
        int column = middleColumn / 2 + side * dr;
        return new int[] {Math.floorDiv(row - 1, 2), Math.floorDiv(column - 1, 2)};
    }

    static int behind(int vertex, int way) {
        int row = vertex / 7 + MOVES[way][0];
        int column = vertex % 7 + MOVES[way][1];
        return row < 0 || row > 6 || column < 0 || column > 6 ? -1 : row * 7 + column;
    }

    static boolean isBlack(int[] place) {
        return Math.floorMod(place[0] + place[1], 2) == 0;
    }

    static int cellOf(int[] place) {
        boolean there = 0 <= place[0] && place[0] <= 5 && 0 <= place[1] && place[1] <= 5;
        return there ? place[0] * 6 + place[1] : -1;
    }

    static int rise(int vertex, int way) {
        return isBlack(beside(vertex, way, 1)) ? 1 : -1;
    }

    static boolean isUpStep(TreeSet<Integer> of, int vertex, int way) {
        boolean near = of.contains(cellOf(beside(vertex, way, 1))) || of.contains(cellOf(beside(vertex, way, -1)));
        return behind(vertex, way) >= 0 && near && rise(vertex, way) == 1;
    }

    static TreeSet<Integer> corners(TreeSet<Integer> of) {
        TreeSet<Integer> all = new TreeSet<>();
        for (int cell : of) {
            int v = cell / 6 * 7 + cell % 6;
            all.addAll(List.of(v, v + 1, v + 7, v + 8));
        }
        return all;
    }

    static boolean hangs(TreeSet<Integer> places) {
        TreeSet<Integer> left = new TreeSet<>(places);
        List<Integer> queue = new ArrayList<>(List.of(left.pollFirst()));
        for (int i = 0; i < queue.size(); i++) {
            int at = queue.get(i);
            for (int next : new int[] {at - 1, at + 1, at - 10, at + 10}) {
                if (left.remove(next)) {
                    queue.add(next);
                }
            }
        }
        return left.isEmpty();
    }

    static boolean isSimple(TreeSet<Integer> of) {
        TreeSet<Integer> in = new TreeSet<>();
        TreeSet<Integer> out = new TreeSet<>();
        for (int row = -1; row <= 6; row++) {
            for (int column = -1; column <= 6; column++) {
                int cell = cellOf(new int[] {row, column});
                (of.contains(cell) ? in : out).add((row + 2) * 10 + column + 2);
            }
        }
        return !in.isEmpty() && hangs(in) && hangs(out);
    }

    static List<Integer> wordOf(TreeSet<Integer> of) {
        List<Integer> word = new ArrayList<>();
        int first = of.first() / 6 * 7 + of.first() % 6;
        int at = first;
        int way = 0;
        do {
            word.add(way);
            at = behind(at, way);
            int next = -1;
            for (int w = 0; w < 4; w++) {
                boolean right = of.contains(cellOf(beside(at, w, -1)));
                if (right && !of.contains(cellOf(beside(at, w, 1)))) {
                    next = w;
                }
            }
            way = next;
        } while (at != first);
        return word;
    }

    /** HEIGHTS by VERTICES on WORD; at -1 that of all STEPS. */
    static TreeMap<Integer, Integer> heightsOf(TreeSet<Integer> of) {
        TreeMap<Integer, Integer> heights = new TreeMap<>();
        int at = of.first() / 6 * 7 + of.first() % 6;
        int height = 0;
        for (int way : wordOf(of)) {
            heights.put(at, height);
            height += rise(at, way);
            at = behind(at, way);
        }
        heights.put(-1, height);
        return heights;
    }

    static int[][] farsOf(TreeSet<Integer> of) {
        int[][] fars = new int[49][49];
        for (int[] row : fars) {
            Arrays.fill(row, FAR_OFF);
        }
        for (int v = 0; v < 49; v++) {
            fars[v][v] = 0;
            for (int way = 0; way < 4; way++) {
                if (isUpStep(of, v, way)) {
                    fars[v][behind(v, way)] = 1;
                }
            }
        }
        for (int k = 0; k < 49; k++) {
            for (int i = 0; i < 49; i++) {
                for (int j = 0; j < 49; j++) {
                    fars[i][j] = Math.min(fars[i][j], fars[i][k] + fars[k][j]);
                }
            }
        }
        return fars;
    }

    static boolean isTilable(TreeSet<Integer> of) {
        if (!isSimple(of)) {
            return false;
        }
        TreeMap<Integer, Integer> heights = heightsOf(of);
        if (heights.remove(-1) != 0) {
            return false;
        }
        int[][] fars = farsOf(of);
        for (int one : heights.keySet()) {
            for (int other : heights.keySet()) {
                if (heights.get(other) - heights.get(one) > fars[one][other]) {
                    return false;
                }
            }
        }
        return true;
    }

    TreeMap<Integer, Integer> bounds(boolean high) {
        TreeMap<Integer, Integer> heights = heightsOf(region);
        heights.remove(-1);
        int[][] fars = farsOf(region);
        TreeMap<Integer, Integer> bounds = new TreeMap<>();
        for (int v : corners(region)) {
            int best = high ? FAR_OFF : -FAR_OFF;
            for (int w : heights.keySet()) {
                best = high ? Math.min(best, heights.get(w) + fars[w][v]) : Math.max(best, heights.get(w) - fars[v][w]);
            }
            bounds.put(v, best);
        }
        return bounds;
    }

    TreeMap<Integer, Integer> heightsByTiling() {
        TreeMap<Integer, Integer> heights = heightsOf(region);
        heights.remove(-1);
        List<Integer> queue = new ArrayList<>(heights.keySet());
        for (int i = 0; i < queue.size(); i++) {
            int v = queue.get(i);
            for (int way = 0; way < 4; way++) {
                int next = behind(v, way);
                if (isUpStep(region, v, way) && !heights.containsKey(next)) {
                    Integer mate = twos.get(cellOf(beside(v, way, 1)));
                    boolean over = mate != null && mate == cellOf(beside(v, way, -1));
                    heights.put(next, heights.get(v) + (over ? -3 : 1));
                    queue.add(next);
                }
            }
        }
        return heights;
    }

    static int above(TreeMap<Integer, Integer> some, TreeMap<Integer, Integer> low) {
        int sum = 0;
        for (int v : low.keySet()) {
            sum += some.get(v) - low.get(v);
        }
        if (sum % 4 != 0) {
            throw new IllegalStateException("heights by 4");
        }
        return sum / 4;
    }

    int rank() {
        return above(heightsByTiling(), bounds(false));
    }

    void become(TreeSet<Integer> other) {
        if (!other.equals(region)) {
            region = other;
            twos = null;
        }
    }

    boolean laidDown(boolean greatest) {
        if (!isTilable(region)) {
            return false;
        }
        TreeMap<Integer, Integer> levels = bounds(greatest);
        twos = new TreeMap<>();
        for (int cell : region) {
            for (int other : region) {
                boolean row = cell / 6 == other / 6 && other == cell + 1;
                boolean column = other == cell + 6;
                int corner = (cell / 6 + 1) * 7 + cell % 6 + 1;
                int end = row ? corner - 7 : corner - 1;
                if ((row || column) && Math.abs(levels.get(corner) - levels.get(end)) == 3) {
                    if (twos.put(cell, other) != null || twos.put(other, cell) != null) {
                        throw new IllegalStateException("a CELL in two twos");
                    }
                }
            }
        }
        if (!twos.keySet().equals(region)) {
            throw new IllegalStateException("a CELL in no two");
        }
        return true;
    }

    boolean turned(int vertex) {
        int row = vertex / 7;
        int column = vertex % 7;
        if (twos == null || row < 1 || row > 5 || column < 1 || column > 5) {
            return false;
        }
        int a = (row - 1) * 6 + column - 1;
        List<Integer> square = List.of(a, a + 1, a + 6, a + 7);
        for (int cell : square) {
            if (!region.contains(cell) || !square.contains(twos.get(cell))) {
                return false;
            }
        }
        boolean inRows = twos.get(a) == a + 1;
        twos.put(a, inRows ? a + 6 : a + 1);
        twos.put(twos.get(a), a);
        twos.put(a + 7, inRows ? a + 1 : a + 6);
        twos.put(twos.get(a + 7), a + 7);
        return true;
    }

    static int edges(TreeSet<Integer> of) {
        int edges = 0;
        for (int cell : of) {
            for (int[] move : MOVES) {
                edges += of.contains(cellOf(new int[] {cell / 6 + move[0], cell % 6 + move[1]})) ? 0 : 1;
            }
        }
        return edges;
    }

    static int blacks(TreeSet<Integer> of) {
        int blacks = 0;
        for (int cell : of) {
            blacks += (cell / 6 + cell % 6) % 2 == 0 ? 1 : 0;
        }
        return blacks;
    }

    static int amount(TreeSet<Integer> of, int what) {
        return what == 0 ? of.size() : what == 1 ? blacks(of) : edges(of);
    }

    static TreeSet<Integer> toggled(TreeSet<Integer> of, int cell) {
        TreeSet<Integer> other = new TreeSet<>(of);
        if (!other.remove(cell)) {
            other.add(cell);
        }
        return other;
    }

    static TreeSet<Integer> mirrored(TreeSet<Integer> of) {
        TreeSet<Integer> other = new TreeSet<>();
        for (int cell : of) {
            other.add(cell / 6 * 6 + 5 - cell % 6);
        }
        return other;
    }

    TreeSet<Integer> filled(int r1, int c1, int r2, int c2, boolean in) {
        TreeSet<Integer> other = new TreeSet<>(region);
        for (int cell = 0; cell < 36; cell++) {
            if (cell / 6 >= r1 && cell / 6 <= r2 && cell % 6 >= c1 && cell % 6 <= c2) {
                if (in) {
                    other.add(cell);
                } else {
                    other.remove(cell);
                }
            }
        }
        return other;
    }

    // ---- the calls

    int cell(int cell, int is) {
        if (!isCell(cell)) return NONE;
        if (is != 0 && is != 1) return BAD;
        int was = region.contains(cell) ? 1 : 0;
        if (was != is) become(toggled(region, cell));
        return was;
    }

    int fill(int from, int to, int is) {
        if (!isCell(from) || !isCell(to)) return NONE;
        if (is != 0 && is != 1 || to / 6 < from / 6 || to % 6 < from % 6) return BAD;
        become(filled(from / 6, from % 6, to / 6, to % 6, is == 1));
        return region.size();
    }

    int lay(int which) {
        if (which != 0 && which != 1) return NONE;
        return laidDown(which == 1) ? rank() : STATE;
    }

    int turn(int vertex) {
        if (!isVertex(vertex)) return NONE;
        return turned(vertex) ? rank() : STATE;
    }

    int begin(int vertex) {
        if (!isVertex(vertex)) return NONE;
        int had = steps.size();
        start = vertex;
        steps = new ArrayList<>();
        return had;
    }

    int end() {
        int at = start;
        for (int way : steps) {
            at = behind(at, way);
        }
        return at;
    }

    int walk(int way) {
        if (way < 0 || way > 3) return BAD;
        if (behind(end(), way) < 0) return STATE;
        if (steps.size() == 40) return FULL;
        steps.add(way);
        return steps.size();
    }

    int feed(int sign) {
        if (sign < 0 || sign > 127) return BAD;
        if (text.length() == 100) return FULL;
        text.append((char) sign);
        return text.length();
    }

    static final String CLAUSE = "(c[0-9]{2}|[fe][0-9]{4}|[mlg]|t[0-9]{2}|w[0-9]{2}[rdlu]{1,20})";

    /** Whether a set-up begins so: the matcher wants more, or has all. */
    static boolean begins(String some) {
        java.util.regex.Matcher m = java.util.regex.Pattern.compile(CLAUSE + "(;" + CLAUSE + "){0,11}").matcher(some);
        return m.matches() || m.hitEnd();
    }

    int read() {
        String all = text.toString();
        text = new StringBuilder();
        if (!all.matches(CLAUSE + "(;" + CLAUSE + "){0,11}")) {
            int fault = 0;
            while (fault < all.length() && begins(all.substring(0, fault + 1))) {
                fault++;
            }
            return -10 - fault;
        }
        int done = 0;
        for (String clause : all.split(";")) {
            done += carriedOut(clause) ? 1 : 0;
        }
        return done;
    }

    private boolean carriedOut(String clause) {
        int[] d = new int[4];
        for (int i = 0; i < 4 && i + 1 < clause.length(); i++) {
            d[i] = clause.charAt(i + 1) - '0';
        }
        boolean inside = d[0] <= 6 && d[1] <= 6;
        switch (clause.charAt(0)) {
            case 'c':
                if (d[0] > 5 || d[1] > 5) return false;
                become(toggled(region, d[0] * 6 + d[1]));
                return true;
            case 'f':
            case 'e':
                if (d[0] > 5 || d[1] > 5 || d[2] > 5 || d[3] > 5 || d[2] < d[0] || d[3] < d[1]) return false;
                become(filled(d[0], d[1], d[2], d[3], clause.charAt(0) == 'f'));
                return true;
            case 'm':
                become(mirrored(region));
                return true;
            case 'l':
                return laidDown(false);
            case 'g':
                return laidDown(true);
            case 't':
                return inside && turned(d[0] * 7 + d[1]);
            default:
                return inside && wayGone(d[0] * 7 + d[1], clause.substring(3));
        }
    }

    private boolean wayGone(int vertex, String letters) {
        List<Integer> ways = new ArrayList<>();
        int at = vertex;
        for (char letter : letters.toCharArray()) {
            ways.add("rdlu".indexOf(letter));
            at = behind(at, "rdlu".indexOf(letter));
            if (at < 0) return false;
        }
        start = vertex;
        steps = ways;
        return true;
    }

    int of(int cell, int what) {
        if (!isCell(cell) || what < 0 || what > 2) return NONE;
        if (what == 0) return region.contains(cell) ? 1 : 0;
        if (what == 1) return (cell / 6 + cell % 6) % 2 == 0 ? 1 : 0;
        return twos == null ? NOT : twos.getOrDefault(cell, NOT);
    }

    int told(int what) {
        switch (what) {
            case 0:
            case 1:
            case 2: return amount(region, what);
            case 3: return isSimple(region) ? 1 : 0;
            case 4: return isTilable(region) ? 1 : 0;
            case 5: return isSimple(region) ? wordOf(region).size() : NOT;
            case 6: return isSimple(region) ? heightsOf(region).get(-1) + 1000 : NOT;
            case 7: return twos == null ? NOT : rank();
            case 8: return isTilable(region) ? above(bounds(true), bounds(false)) : NOT;
            default: return NONE;
        }
    }

    int word(int i) {
        if (i < 0) return NONE;
        return !isSimple(region) || i >= wordOf(region).size() ? NOT : wordOf(region).get(i);
    }

    int height(int vertex, int what) {
        if (!isVertex(vertex) || what < 0 || what > 3) return NONE;
        if (what == 0 && (!isSimple(region) || heightsOf(region).get(-1) != 0)) return STATE;
        if ((what == 1 || what == 2) && !isTilable(region)) return STATE;
        if (what == 3 && twos == null) return STATE;
        TreeMap<Integer, Integer> levels = what == 0 ? heightsOf(region) : what == 3 ? heightsByTiling() : bounds(what == 2);
        return levels.containsKey(vertex) ? levels.get(vertex) + 1000 : NOT;
    }

    int far(int one, int other) {
        if (!isVertex(one) || !isVertex(other)) return NONE;
        TreeSet<Integer> corners = corners(region);
        if (!corners.contains(one) || !corners.contains(other)) return NOT;
        int far = farsOf(region)[one][other];
        return far >= FAR_OFF ? NOT : far;
    }

    int centre(int what) {
        if (what != 0 && what != 1) return NONE;
        if (region.isEmpty()) return STATE;
        float sum = 0.0f;
        for (int cell : region) {
            sum += (float) (what == 0 ? cell / 6 : cell % 6) + 0.5f;
        }
        return Float.floatToIntBits(sum / (float) region.size());
    }

    int walked(int what) {
        switch (what) {
            case 0: return steps.size();
            case 1: return start;
            case 2: return end();
            case 3: return end() == start ? 1 : 0;
            case 4:
                String word = "";
                for (int way : steps) {
                    word += "rdlu".charAt(way);
                }
                for (int i = 0; i < 41; i++) {
                    word = word.replaceFirst("rl|lr|ud|du", "");
                }
                return word.length();
            case 5:
                int sum = 1000;
                int at = start;
                for (int way : steps) {
                    sum += rise(at, way);
                    at = behind(at, way);
                }
                return sum;
            default: return NONE;
        }
    }

    int winds(int cell) {
        if (!isCell(cell)) return NONE;
        if (end() != start) return STATE;
        int winds = 100;
        int at = start;
        for (int way : steps) {
            int next = behind(at, way);
            boolean down = at / 7 == cell / 6 && next / 7 == cell / 6 + 1;
            boolean up = next / 7 == cell / 6 && at / 7 == cell / 6 + 1;
            if (at % 7 > cell % 6) {
                winds += down ? 1 : up ? -1 : 0;
            }
            at = next;
        }
        return winds;
    }

    // ---- stones: all coverings, each as a list of {form, cells ..}

    static int[] stone(int kind, int form, int cell) {
        int[][][] offsets = {
            {{0, 0, 0, 1}, {0, 0, 1, 0}},
            {{0, 0, 0, 1, 0, 2}, {0, 0, 1, 0, 2, 0}},
            {{0, 0, 0, 1, 1, 0}, {0, 0, 0, 1, 1, 1}, {0, 0, 1, 0, 1, 1}, {0, 0, 1, -1, 1, 0}}};
        int[] pairs = offsets[kind][form];
        int[] stone = new int[1 + pairs.length / 2];
        stone[0] = form;
        for (int i = 0; i < pairs.length; i += 2) {
            stone[1 + i / 2] = cellOf(new int[] {cell / 6 + pairs[i], cell % 6 + pairs[i + 1]});
        }
        return stone;
    }

    static void cover(int kind, TreeSet<Integer> left, List<int[]> soFar, List<List<int[]>> all) {
        if (left.isEmpty()) {
            all.add(new ArrayList<>(soFar));
            return;
        }
        for (int form = 0; form < (kind == 2 ? 4 : 2); form++) {
            int[] stone = stone(kind, form, left.first());
            TreeSet<Integer> rest = new TreeSet<>(left);
            boolean lies = true;
            for (int i = 1; i < stone.length; i++) {
                lies &= rest.remove(stone[i]);
            }
            if (lies) {
                soFar.add(stone);
                cover(kind, rest, soFar, all);
                soFar.remove(soFar.size() - 1);
            }
        }
    }

    List<List<int[]>> all(int kind) {
        List<List<int[]>> all = new ArrayList<>();
        cover(kind, region, new ArrayList<>(), all);
        return all;
    }

    static int formOver(List<int[]> covering, int cell) {
        for (int[] stone : covering) {
            for (int i = 1; i < stone.length; i++) {
                if (stone[i] == cell) return stone[0];
            }
        }
        return NOT;
    }

    int coverings(int kind) {
        return kind < 0 || kind > 2 ? NONE : all(kind).size();
    }

    int first(int kind, int cell) {
        if (kind < 0 || kind > 2 || !isCell(cell)) return NONE;
        List<List<int[]>> all = all(kind);
        return all.isEmpty() ? NOT : formOver(all.get(0), cell);
    }

    int weight(int kind) {
        if (kind < 0 || kind > 2) return NONE;
        float sum = 0.0f;
        for (List<int[]> covering : all(kind)) {
            float product = 1.0f;
            for (int[] stone : covering) {
                product *= stone[0] == 0 || stone[0] == 3 ? 0.75f : 1.25f;
            }
            sum += product;
        }
        return Float.floatToIntBits(sum);
    }

    int barred(int kind) {
        if (kind < 0 || kind > 2) return NONE;
        if (region.size() % (kind == 0 ? 2 : 3) != 0) return 0;
        if (kind == 0 && blacks(region) != region.size() - blacks(region)) return 1;
        int[] falling = new int[3];
        int[] rising = new int[3];
        for (int cell : region) {
            falling[(cell / 6 + cell % 6) % 3]++;
            rising[(cell / 6 + 5 - cell % 6) % 3]++;
        }
        for (int[] some : new int[][] {falling, rising}) {
            if (kind == 1 && (some[0] != some[1] || some[1] != some[2])) return 1;
        }
        return kind == 0 && isSimple(region) && !isTilable(region) ? 2 : NOT;
    }

    int see(int what, int n) {
        if (what == -1) {
            seen.clear();
            return 0;
        }
        if (what < 0 || what > 2) return NONE;
        if (n < 0 || n > 144) return BAD;
        if (seen.size() == 4) return FULL;
        seen.add(new int[] {what, n});
        return seen.size();
    }

    long fits() {
        long fits = 0;
        for (int cell = 0; cell < 36; cell++) {
            TreeSet<Integer> other = toggled(region, cell);
            boolean all = true;
            for (int[] row : seen) {
                all &= amount(other, row[0]) == row[1];
            }
            fits += all ? 1L << cell : 0;
        }
        return fits;
    }

    long odds(int kind, int cell, int form, int part) {
        if (kind < 0 || kind > 2 || !isCell(cell) || form < 0 || form > (kind == 2 ? 3 : 1)) return NO;
        if (part != 0 && part != 1) return NO;
        List<List<int[]>> all = all(kind);
        int such = 0;
        for (List<int[]> covering : all) {
            such += formOver(covering, cell) == form ? 1 : 0;
        }
        if (all.isEmpty()) return NO;
        int common = java.math.BigInteger.valueOf(such).gcd(java.math.BigInteger.valueOf(all.size())).intValue();
        return part == 0 ? such / common : all.size() / common;
    }

    long mean() {
        if (!isTilable(region)) return NO;
        double sum = 0.0;
        for (int low : bounds(false).values()) {
            sum += low;
        }
        return Double.doubleToLongBits(sum / (double) corners(region).size());
    }

    int event(int what, int n) {
        if (what == -1) {
            events.clear();
            return 0;
        }
        if (what < 0 || what > 3) return NONE;
        if (what == 0 && !isCell(n) || (what == 1 || what == 2) && (n < 0 || n > 5)) return NONE;
        if (what == 3 && n != 0) return BAD;
        if (events.size() == 8) return FULL;
        events.add(new int[] {what, n});
        return events.size();
    }

    int after(int what) {
        if (what < 0 || what > 2) return NONE;
        Model other = new Model();
        other.region = region;
        for (int[] row : events) {
            switch (row[0]) {
                case 0: other.region = toggled(other.region, row[1]); break;
                case 1: other.region = other.filled(row[1], 0, row[1], 5, true); break;
                case 2: other.region = other.filled(0, row[1], 5, row[1], false); break;
                default: other.region = mirrored(other.region);
            }
        }
        return what == 0 ? other.region.size() : other.told(what + 2);
    }

    int book(int cell, int is) {
        if (cell == -1) {
            pages.clear();
            return 0;
        }
        if (!isCell(cell)) return NONE;
        if (is != 0 && is != 1) return BAD;
        if (pages.size() == 8) return FULL;
        pages.add(new int[] {cell, is});
        return pages.size();
    }

    int looked() {
        for (int[] row : pages) {
            if (of(row[0], 0) != row[1]) return pages.indexOf(row);
        }
        return NOT;
    }

    int judge(int tape, int i) {
        if (tape < 0 || tape > 5) return NONE;
        if (tapes[tape] == null) return 100;
        if (!(tapes[tape] instanceof boolean[])) return -12;
        boolean[] row = (boolean[]) tapes[tape];
        if (i < 0) return 100;
        int many = 0;
        for (long at = i; many < 36; at++) {
            if (at >= row.length) return 100 + many;
            if (row[(int) at] != region.contains(many)) return many;
            many++;
        }
        return NOT;
    }

    private void copyTo(Model other) {
        other.region = new TreeSet<>(region);
        other.twos = twos == null ? null : new TreeMap<>(twos);
        other.start = start;
        other.steps = new ArrayList<>(steps);
        other.seen = new ArrayList<>(seen);
        other.events = new ArrayList<>(events);
        other.pages = new ArrayList<>(pages);
    }

    int image() {
        kept = new Model();
        copyTo(kept);
        return region.size();
    }

    int undo() {
        if (kept == null) return STATE;
        kept.copyTo(this);
        return region.size();
    }

    int count(int what) {
        return what < 0 || what > 3 ? BAD : new int[] {seen.size(), events.size(), pages.size(), text.length()}[what];
    }

    int tape(int tape, int sort, int n) {
        if (tape < 0 || tape > 5) return NONE;
        if (sort == -1) {
            tapes[tape] = null;
            return 1;
        }
        if (sort < 0 || sort > 4 || n > 60) return BAD;
        if (n < 0) return -14;
        switch (sort) {
            case 0: tapes[tape] = new byte[n]; break;
            case 1: tapes[tape] = new short[n]; break;
            case 2: tapes[tape] = new int[n]; break;
            case 3: tapes[tape] = new long[n]; break;
            default: tapes[tape] = new boolean[n];
        }
        return 1;
    }

    int item(int tape, int i, long v) {
        if (tape < 0 || tape > 5) return NONE;
        Object row = tapes[tape];
        if (row == null) return -11;
        if (i < 0 || i >= java.lang.reflect.Array.getLength(row)) return -13;
        if (row instanceof byte[]) ((byte[]) row)[i] = (byte) v;
        if (row instanceof short[]) ((short[]) row)[i] = (short) v;
        if (row instanceof int[]) ((int[]) row)[i] = (int) v;
        if (row instanceof long[]) ((long[]) row)[i] = v;
        if (row instanceof boolean[]) ((boolean[]) row)[i] = v != 0;
        return 1;
    }

    long peek(int tape, int i) {
        if (tape < 0 || tape > 5 || tapes[tape] == null) return NO;
        Object row = tapes[tape];
        if (i < 0 || i >= java.lang.reflect.Array.getLength(row)) return NO;
        if (row instanceof boolean[]) return ((boolean[]) row)[i] ? 1 : 0;
        return java.lang.reflect.Array.getLong(row, i);
    }

    int shift(int tape, int i, int other, int j, int n) {
        if (tape < 0 || tape > 5 || other < 0 || other > 5) return NONE;
        if (tapes[tape] == null || tapes[other] == null) return -11;
        try {
            System.arraycopy(tapes[tape], i, tapes[other], j, n);
            return n;
        } catch (ArrayStoreException unlike) {
            return -12;
        } catch (IndexOutOfBoundsException beyond) {
            return -13;
        }
    }
}
