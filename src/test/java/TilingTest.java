import java.util.ArrayDeque;
import java.util.ArrayList;
import java.util.HashMap;
import java.util.List;
import java.util.Map;

/** Promises 4, 5, 11, 13, 18, 21: heights, turns and coverings agree, by what is known of them. */
public final class TilingTest {
    private static final Check C = new Check("TilingTest");

    public static void main(String[] args) {
        for (int bits = 1; bits < 1 << 12; bits++) {
            tilableIfCovered(bits, 3);
        }
        for (int bits = 1; bits < 1 << 16; bits += 3) {
            tilableIfCovered(bits, 4);
        }
        turnsReachAll(0, 21, new int[0]);
        turnsReachAll(0, 22, new int[0]);
        turnsReachAll(1, 23, new int[] {1, 23});
        turnsReachAll(0, 35, new int[] {0, 1, 4, 5, 6, 11, 24, 29, 30, 31, 34, 35});
        turnsReachAll(6, 23, new int[] {6, 12});
        turnsReachAll(1, 28, new int[] {1, 4, 25, 28});
        C.end();
    }

    /** Of all regions of so many columns and four rows, those that are SIMPLE. */
    private static void tilableIfCovered(int bits, int columns) {
        RegionWords x = new RegionWords();
        for (int i = 0; i < 4 * columns; i++) {
            if ((bits >> i & 1) != 0) {
                x.cell(i / columns * 6 + i % columns + 6, 1);
            }
        }
        if (x.told(3) == 0) {
            return;
        }
        boolean covered = x.coverings(0) > 0;
        C.due(bits + " told(4)", x.told(4), covered ? 1 : 0);
        C.due(bits + " lay(0)", x.lay(0), covered ? 0 : -3);
        C.due(bits + " lay(1)", x.lay(1), covered ? x.told(8) : -3);
        C.due(bits + " barred", x.barred(0) == -5 ? 1 : 0, covered ? 1 : 0);
    }

    private static String key(RegionWords x) {
        StringBuilder key = new StringBuilder();
        for (int i = 0; i < 36; i++) {
            key.append(x.of(i, 2)).append(' ');
        }
        return key.toString();
    }

    private static RegionWords region(int from, int to, int[] less) {
        RegionWords x = Check.block(from, to);
        for (int cell : less) {
            x.cell(cell, 0);
        }
        return x;
    }

    /** From LEAST on by turns: each covering is met, and RANK is how many turns that takes. */
    private static void turnsReachAll(int from, int to, int[] less) {
        Map<String, Integer> ranks = new HashMap<>();
        ArrayDeque<List<Integer>> ways = new ArrayDeque<>();
        ways.add(new ArrayList<>());
        String name = from + ".." + to;
        int greatest = region(from, to, less).told(8);
        C.due(name + " is tilable", region(from, to, less).told(4), 1);
        int most = 0;
        while (!ways.isEmpty()) {
            List<Integer> way = ways.remove();
            RegionWords x = region(from, to, less);
            x.lay(0);
            for (int vertex : way) {
                x.turn(vertex);
            }
            if (ranks.putIfAbsent(key(x), way.size()) != null) {
                continue;
            }
            C.due(name + " rank behind " + way, x.told(7), way.size());
            most = Math.max(most, way.size());
            for (int vertex = 0; vertex < 49; vertex++) {
                if (x.turn(vertex) >= 0) {
                    x.turn(vertex);
                    List<Integer> further = new ArrayList<>(way);
                    further.add(vertex);
                    ways.add(further);
                }
            }
        }
        C.due(name + " tilings", ranks.size(), region(from, to, less).coverings(0));
        C.due(name + " rank of the greatest", most, greatest);
        RegionWords last = region(from, to, less);
        C.due(name + " lay(1)", last.lay(1), greatest);
        C.due(name + " the greatest is met last", ranks.get(key(last)), greatest);
    }
}
