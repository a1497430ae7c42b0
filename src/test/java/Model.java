import java.util.ArrayDeque;
import java.util.ArrayList;
import java.util.Arrays;
import java.util.BitSet;
import java.util.HashMap;
import java.util.HashSet;
import java.util.List;
import java.util.Map;
import java.util.Random;
import java.util.Set;

/** The document's words taken slowly and one by one, by other ways than the program takes. */
final class Model {
    final int states;
    final int width;
    final int[] table;

    Model(int states, int width, int[] table) {
        this.states = states;
        this.width = width;
        this.table = table;
    }

    static int power(int base, int exponent) {
        return exponent == 0 ? 1 : base * power(base, exponent - 1);
    }

    static Model random(Random dice, int states, int width) {
        int[] table = new int[power(states, width)];
        boolean even = dice.nextBoolean();
        for (int i = 0; i < table.length; i++) {
            table[i] = even ? i % states : dice.nextInt(states);
        }
        for (int i = table.length - 1; even && i > 0; i--) {
            int j = dice.nextInt(i + 1);
            int spare = table[i];
            table[i] = table[j];
            table[j] = spare;
        }
        return new Model(states, width, table);
    }

    /** A rule that is a permutation of the states in each last cell, so that it misses nothing. */
    static Model permutive(Random dice, int states, int width) {
        int[] table = new int[power(states, width)];
        for (int i = 0; i < table.length; i += states) {
            List<Integer> order = new ArrayList<>();
            for (int s = 0; s < states; s++) {
                order.add(dice.nextInt(s + 1), s);
            }
            for (int s = 0; s < states; s++) {
                table[i + s] = order.get(s);
            }
        }
        return new Model(states, width, table);
    }

    static Model ofNumber(int number) {
        int[] table = new int[8];
        for (int i = 0; i < 8; i++) {
            table[i] = number >> i & 1;
        }
        return new Model(2, 3, table);
    }

    /** The rule that is the same but for the names of the states. */
    Model renamed(int... name) {
        int[] other = new int[table.length];
        for (int n = 0; n < table.length; n++) {
            int[] cells = unpack(n, width);
            for (int i = 0; i < cells.length; i++) {
                cells[i] = name[cells[i]];
            }
            other[pack(cells)] = name[table[n]];
        }
        return new Model(states, width, other);
    }

    String text() {
        StringBuilder text = new StringBuilder().append(states).append(width).append('T');
        for (int value : table) {
            text.append(value);
        }
        return text.toString();
    }

    int[] unpack(int packed, int length) {
        int[] row = new int[length];
        for (int i = length - 1; i >= 0; i--) {
            row[i] = packed % states;
            packed /= states;
        }
        return row;
    }

    int pack(int[] row) {
        int packed = 0;
        for (int cell : row) {
            packed = packed * states + cell;
        }
        return packed;
    }

    int[] stepRing(int[] ring) {
        int[] made = new int[ring.length];
        for (int i = 0; i < ring.length; i++) {
            int[] window = new int[width];
            for (int j = 0; j < width; j++) {
                window[j] = ring[Math.floorMod(i - (width - 1) / 2 + j, ring.length)];
            }
            made[i] = table[pack(window)];
        }
        return made;
    }

    int[] stepRow(int[] row) {
        int[] made = new int[row.length - width + 1];
        for (int i = 0; i < made.length; i++) {
            made[i] = table[pack(Arrays.copyOfRange(row, i, i + width))];
        }
        return made;
    }

    /** All rings before this one, from the least on. */
    List<int[]> ringsBefore(int[] ring) {
        List<int[]> found = new ArrayList<>();
        for (int n = 0; n < power(states, ring.length); n++) {
            int[] earlier = unpack(n, ring.length);
            if (Arrays.equals(stepRing(earlier), ring)) {
                found.add(earlier);
            }
        }
        return found;
    }

    /** How many rings are before this one: the trace of a product with a matrix for each cell. */
    long waysByMatrices(int[] ring) {
        int nodes = power(states, width - 1);
        long[][] product = new long[nodes][nodes];
        for (int node = 0; node < nodes; node++) {
            product[node][node] = 1;
        }
        for (int cell : ring) {
            long[][] next = new long[nodes][nodes];
            for (int window = 0; window < table.length; window++) {
                for (int node = 0; table[window] == cell && node < nodes; node++) {
                    next[node][window % nodes] += product[node][window / states];
                }
            }
            product = next;
        }
        long trace = 0;
        for (int node = 0; node < nodes; node++) {
            trace += product[node][node];
        }
        return trace;
    }

    /** The orphan that counts, looked for among all rows of up to this many cells; or null. */
    int[] orphanByRows(int most) {
        for (int length = 1; length <= most; length++) {
            boolean[] made = new boolean[power(states, length)];
            for (int n = 0; n < power(states, length + width - 1); n++) {
                made[pack(stepRow(unpack(n, length + width - 1)))] = true;
            }
            for (int n = 0; n < made.length; n++) {
                if (!made[n]) {
                    return unpack(n, length);
                }
            }
        }
        return null;
    }

    /** What a search by sets tells. */
    static final class Search {
        /** Null when there is none. */
        List<Integer> orphan = null;
        int setsMet = 1;
    }

    /** A search that has met more than the most sets is given up. */
    Search orphanBySets(int most) {
        Search search = new Search();
        int nodes = power(states, width - 1);
        Set<Integer> all = new HashSet<>();
        for (int node = 0; node < nodes; node++) {
            all.add(node);
        }
        Map<Set<Integer>, List<Integer>> met = new HashMap<>();
        ArrayDeque<Set<Integer>> queue = new ArrayDeque<>();
        met.put(all, new ArrayList<>());
        queue.add(all);
        while (!queue.isEmpty() && search.setsMet <= most) {
            Set<Integer> set = queue.remove();
            for (int s = 0; s < states; s++) {
                Set<Integer> next = new HashSet<>();
                for (int window = 0; window < table.length; window++) {
                    if (table[window] == s && set.contains(window / states)) {
                        next.add(window % nodes);
                    }
                }
                List<Integer> way = new ArrayList<>(met.get(set));
                way.add(s);
                if (next.isEmpty()) {
                    search.orphan = way;
                    return search;
                }
                if (!met.containsKey(next)) {
                    search.setsMet++;
                    met.put(next, way);
                    queue.add(next);
                }
            }
        }
        return search;
    }

    /** No pair of different nodes lies on two rows of which the same is made. */
    boolean injective() {
        if (width == 1) {
            return Arrays.stream(table).distinct().count() == states;
        }
        int nodes = power(states, width - 1);
        int pairs = nodes * nodes;
        BitSet[] reaches = new BitSet[pairs];
        for (int i = 0; i < pairs; i++) {
            reaches[i] = new BitSet(pairs);
        }
        for (int v = 0; v < table.length; v++) {
            for (int w = 0; w < table.length; w++) {
                if (table[v] == table[w]) {
                    reaches[v / states * nodes + w / states].set(v % nodes * nodes + w % nodes);
                }
            }
        }
        for (int k = 0; k < pairs; k++) {
            for (int i = 0; i < pairs; i++) {
                if (reaches[i].get(k)) {
                    reaches[i].or(reaches[k]);
                }
            }
        }
        BitSet comes = new BitSet(pairs);
        BitSet round = new BitSet(pairs);
        for (int i = 0; i < pairs; i++) {
            if (reaches[i].get(i)) {
                comes.or(reaches[i]);
                round.set(i);
            }
        }
        for (int pair = 0; pair < pairs; pair++) {
            if (pair / nodes != pair % nodes && comes.get(pair) && reaches[pair].intersects(round)) {
                return false;
            }
        }
        return true;
    }

    /** U, p and then what is told of each packed U cells; or null. */
    int[] inverse() {
        for (int u = 1; u <= 5; u++) {
            for (int p = 0; p <= u + width - 2; p++) {
                int[] told = told(u, p);
                if (told != null) {
                    int[] answer = new int[told.length + 2];
                    answer[0] = u;
                    answer[1] = p;
                    System.arraycopy(told, 0, answer, 2, told.length);
                    return answer;
                }
            }
        }
        return null;
    }

    private int[] told(int u, int p) {
        int[] told = new int[power(states, u)];
        Arrays.fill(told, -1);
        for (int n = 0; n < power(states, u + width - 1); n++) {
            int[] row = unpack(n, u + width - 1);
            int made = pack(stepRow(row));
            if (told[made] >= 0 && told[made] != row[p]) {
                return null;
            }
            told[made] = row[p];
        }
        return told;
    }

    /** How much more of each state there is behind a step, for each ring of up to this many cells. */
    Set<List<Integer>> gains(int most) {
        Set<List<Integer>> gains = new HashSet<>();
        for (int length = 1; length <= most; length++) {
            for (int n = 0; n < power(states, length); n++) {
                int[] ring = unpack(n, length);
                Integer[] gain = new Integer[states];
                Arrays.fill(gain, 0);
                for (int cell : stepRing(ring)) {
                    gain[cell]++;
                }
                for (int cell : ring) {
                    gain[cell]--;
                }
                gains.add(List.of(gain));
            }
        }
        return gains;
    }
}
