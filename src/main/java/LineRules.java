import java.util.Arrays;

/** Cells in a line that all change at once by one rule. */
public final class LineRules {
    public static final int NONE = -1;
    public static final int FULL = -2;

    private static final int MOST_TEXT = 64;
    private static final int MOST_STATES = 4;
    private static final int MOST_WIDTH = 4;
    private static final int MOST_WINDOWS = 256;
    private static final int MOST_NODES = 64;
    private static final int MOST_CELLS = 64;
    private static final int MOST_STEPS = 200;
    private static final int MOST_SETS = 500;
    private static final int MOST_INVERSE_WIDTH = 5;
    private static final int MOST_INVERSE_ROWS = 1024;
    private static final int MOST_OPEN = 4;
    private static final int FAULT_AT_START = -10;

    private final Text text = new Text();
    private final Rule current = new Rule();
    private final Ring circle = new Ring(current);
    private final Pairs pairs = new Pairs(current);
    private final Inverse reverse = new Inverse(current, pairs);
    private final Weights weights = new Weights(current);
    private final Orphan missing = new Orphan(current, pairs);
    private final Past past = new Past(current, circle);

    public LineRules() {
    }

    public int load(int c) {
        return text.append(c);
    }

    public int rule() {
        int fault = text.readInto(current);
        if (fault >= 0) {
            return FAULT_AT_START - fault;
        }
        circle.clear();
        pairs.forget();
        reverse.forget();
        weights.forget();
        missing.forget();
        past.forget();
        return current.states;
    }

    public int next(int n) {
        if (!current.present || n < 0 || n >= current.windows) {
            return NONE;
        }
        return current.table[n];
    }

    public int ring(int cells) {
        if (cells < 1 || cells > MOST_CELLS) {
            return NONE;
        }
        int old = circle.count;
        circle.resize(cells);
        past.forget();
        return old;
    }

    public int set(int i, int s) {
        if (!current.present || !circle.has(i) || !current.hasState(s)) {
            return NONE;
        }
        int old = circle.row[i];
        circle.row[i] = s;
        past.forget();
        return old;
    }

    public int get(int i) {
        return circle.has(i) ? circle.row[i] : NONE;
    }

    public int step(int n) {
        if (!current.present || n < 0 || n > MOST_STEPS) {
            return NONE;
        }
        past.forget();
        return circle.run(n);
    }

    public int population(int s) {
        if (!current.present || !current.hasState(s)) {
            return NONE;
        }
        return circle.countOf(s);
    }

    public int surjective() {
        if (!current.present) {
            return NONE;
        }
        return pairs.missesNothing() ? 1 : 0;
    }

    public int injective() {
        if (!current.present) {
            return NONE;
        }
        return pairs.losesNothing() ? 1 : 0;
    }

    public int inverse(int what) {
        if (!current.present || what < 0 || what > 1) {
            return NONE;
        }
        return what == 0 ? reverse.width() : reverse.place();
    }

    public int undo(int n) {
        return current.present ? reverse.cellOf(n) : NONE;
    }

    public int conserved() {
        return current.present ? weights.count() : NONE;
    }

    public int weight(int k, int s) {
        return current.present ? weights.at(k, s) : NONE;
    }

    public int orphan() {
        return current.present ? missing.length() : NONE;
    }

    public int orphanAt(int i) {
        return current.present ? missing.cell(i) : NONE;
    }

    public int before() {
        if (!current.present) {
            return NONE;
        }
        return past.exists() ? 1 : 0;
    }

    public int beforeAt(int i) {
        return current.present ? past.cell(i) : NONE;
    }

    public long ways() {
        return current.present ? past.count() : NONE;
    }

    /**
     * A rule as a table. A window is W packed cells, a node W - 1 packed cells: a window leads
     * from the node of its first cells to the node of its last, so rows are walks over nodes.
     */
    private static final class Rule {
        final int[] table = new int[MOST_WINDOWS];
        /** For each node and state the set of nodes behind it, a bit each, where that is made. */
        final long[] followers = new long[MOST_NODES * MOST_STATES];
        /** The nodes at both ends of each window, the windows being sorted by what they make. */
        final int[] starts = new int[MOST_WINDOWS];
        final int[] ends = new int[MOST_WINDOWS];
        /** Where the windows that make a state begin among those, and where the last ones end. */
        final int[] sorted = new int[MOST_STATES + 1];
        boolean present = false;
        // No number here is ever 0, so that all can be divided by.
        int states = 2;
        int width = 1;
        int windows = 2;
        int nodes = 1;

        void shape(int newStates, int newWidth) {
            states = newStates;
            width = newWidth;
            nodes = power(newStates, newWidth - 1);
            windows = nodes * newStates;
        }

        /** To be called when the table is another one. */
        void complete() {
            Arrays.fill(followers, 0L);
            int count = 0;
            for (int state = 0; state < states; state++) {
                sorted[state] = count;
                for (int window = 0; window < windows; window++) {
                    if (table[window] == state) {
                        enter(window, count);
                        count++;
                    }
                }
            }
            sorted[states] = count;
            present = true;
        }

        private void enter(int window, int at) {
            starts[at] = window / states;
            ends[at] = end(window);
            followers[starts[at] * MOST_STATES + table[window]] |= 1L << ends[at];
        }

        /** The node that a window leads to. */
        int end(int window) {
            return window % nodes;
        }

        long behind(int node, int state) {
            return followers[node * MOST_STATES + state];
        }

        long allNodes() {
            return nodes == MOST_NODES ? -1L : (1L << nodes) - 1;
        }

        boolean hasState(int s) {
            return s >= 0 && s < states;
        }

        /** How many cells of a window stand before the one that it makes. */
        int left() {
            return (width - 1) / 2;
        }
    }

    /** The text that is loaded, and how it is read. */
    private static final class Text {
        private static final int FIRST_PLAIN = 32;
        private static final int LAST_PLAIN = 126;
        private static final int BODY = 3;
        private static final int TEST_LEVEL = 2;
        private static final int LEVELS = 5;
        /** No character of a text: nothing more is to be read. */
        private static final char END = 0;

        private final char[] characters = new char[MOST_TEXT];
        private final int[] letters = new int[MOST_WIDTH];
        private int length = 0;
        private int states = 2;
        private int width = 1;
        private char kind = 'T';
        private int place = 0;
        private int open = 0;
        /** Once this is so the place stays at the fault, since here() shows nothing more to read. */
        private boolean faulty = false;

        int append(int c) {
            if (c < FIRST_PLAIN || c > LAST_PLAIN) {
                return NONE;
            }
            if (length >= MOST_TEXT) {
                return FULL;
            }
            characters[length] = (char) c;
            length++;
            return length;
        }

        /** Empties the text; answers its fault, or NONE, and only then is the rule a new one. */
        int readInto(Rule rule) {
            int fault = fault();
            if (fault == NONE) {
                fill(rule);
            }
            length = 0;
            return fault;
        }

        private int fault() {
            for (int i = 0; i < BODY; i++) {
                if (i >= length || !fitsHead(i, characters[i])) {
                    return i;
                }
            }
            states = characters[0] - '0';
            width = characters[1] - '0';
            kind = characters[2];
            switch (kind) {
                case 'T':
                    return digitsFault(power(states, width));
                case 'S':
                    return digitsFault(width * (states - 1) + 1);
                default:
                    valueFor(0);
                    return faulty || place < length ? place : NONE;
            }
        }

        private boolean fitsHead(int i, char c) {
            switch (i) {
                case 0:
                    return c >= '2' && c <= '0' + MOST_STATES;
                case 1:
                    return c >= '1' && c <= '0' + MOST_WIDTH;
                default:
                    return c == 'T' || c == 'S' || c == 'E';
            }
        }

        private int digitsFault(int count) {
            int end = BODY + count;
            for (int i = BODY; i < end; i++) {
                if (i >= length || characters[i] < '0' || characters[i] >= '0' + states) {
                    return i;
                }
            }
            return length > end ? end : NONE;
        }

        private void fill(Rule rule) {
            rule.shape(states, width);
            for (int window = 0; window < rule.windows; window++) {
                rule.table[window] = made(window);
            }
            rule.complete();
        }

        private int made(int window) {
            switch (kind) {
                case 'T':
                    return characters[BODY + window] - '0';
                case 'S':
                    return characters[BODY + sumOf(window)] - '0';
                default:
                    return valueFor(window);
            }
        }

        private int sumOf(int window) {
            int sum = 0;
            int rest = window;
            for (int i = 0; i < width; i++) {
                sum += rest % states;
                rest /= states;
            }
            return sum;
        }

        /** Reads the expression once, with the cells of the window for its letters. */
        private int valueFor(int window) {
            int rest = window;
            for (int i = width - 1; i >= 0; i--) {
                letters[i] = rest % states;
                rest /= states;
            }
            place = BODY;
            open = 0;
            faulty = false;
            return choice();
        }

        private char here() {
            return faulty || place >= length ? END : characters[place];
        }

        private int choice() {
            int asked = joined(0);
            if (here() != '?') {
                return asked;
            }
            if (!opens()) {
                return 0;
            }
            int first = choice();
            if (here() != ':') {
                faulty = true;
                return 0;
            }
            place++;
            int second = choice();
            open--;
            return asked != 0 ? first : second;
        }

        private boolean opens() {
            if (open >= MOST_OPEN) {
                faulty = true;
                return false;
            }
            open++;
            place++;
            return true;
        }

        /** Values of the next level with signs of this one between them, from the left on. */
        private int joined(int level) {
            if (level >= LEVELS) {
                return part();
            }
            int value = joined(level + 1);
            int signs = level == TEST_LEVEL ? 1 : MOST_TEXT;
            for (int i = 0; i < signs && levelOf(here()) == level; i++) {
                char sign = here();
                place++;
                value = together(value, sign, joined(level + 1));
            }
            return value;
        }

        private static int levelOf(char sign) {
            switch (sign) {
                case '|':
                    return 0;
                case '&':
                    return 1;
                case '=':
                case '<':
                    return TEST_LEVEL;
                case '+':
                case '-':
                    return 3;
                case '*':
                    return 4;
                default:
                    return NONE;
            }
        }

        private int together(int a, char sign, int b) {
            switch (sign) {
                case '|':
                    return Math.max(a, b);
                case '&':
                    return Math.min(a, b);
                case '=':
                    return a == b ? 1 : 0;
                case '<':
                    return a < b ? 1 : 0;
                case '+':
                    return (a + b) % states;
                case '-':
                    return (a - b + states) % states;
                default:
                    return a * b % states;
            }
        }

        private int part() {
            boolean turned = false;
            for (int i = 0; i < MOST_TEXT && here() == '!'; i++) {
                turned = !turned;
                place++;
            }
            int value = unturned();
            return turned ? states - 1 - value : value;
        }

        private int unturned() {
            char c = here();
            if (c >= '0' && c <= '9') {
                place++;
                return (c - '0') % states;
            }
            if (c >= 'a' && c < 'a' + width) {
                place++;
                return letters[c - 'a'];
            }
            if (c == '(') {
                return bracket();
            }
            faulty = true;
            return 0;
        }

        private int bracket() {
            if (!opens()) {
                return 0;
            }
            int value = choice();
            if (here() != ')') {
                faulty = true;
                return 0;
            }
            place++;
            open--;
            return value;
        }
    }

    /** The ring of cells, and how it steps. */
    private static final class Ring {
        final int[] row = new int[MOST_CELLS];
        int count = 1;
        private final Rule rule;
        private final int[] made = new int[MOST_CELLS];
        private final int[] old = new int[MOST_CELLS];

        Ring(Rule rule) {
            this.rule = rule;
        }

        void resize(int newCount) {
            count = newCount;
            clear();
        }

        void clear() {
            Arrays.fill(row, 0);
        }

        boolean has(int i) {
            return i >= 0 && i < count;
        }

        int countOf(int state) {
            int found = 0;
            for (int i = 0; i < count; i++) {
                if (row[i] == state) {
                    found++;
                }
            }
            return found;
        }

        /** Answers how many cells are other ones than before the first step. */
        int run(int steps) {
            System.arraycopy(row, 0, old, 0, count);
            for (int i = 0; i < steps; i++) {
                stepOnce();
            }
            int changed = 0;
            for (int i = 0; i < count; i++) {
                if (row[i] != old[i]) {
                    changed++;
                }
            }
            return changed;
        }

        private void stepOnce() {
            int window = 0;
            for (int i = 0; i < rule.width; i++) {
                window = window * rule.states + row[Math.floorMod(i - rule.left(), count)];
            }
            int ahead = rule.width - rule.left();
            for (int i = 0; i < count; i++) {
                made[i] = rule.table[window];
                window = rule.end(window) * rule.states + row[(i + ahead) % count];
            }
            System.arraycopy(made, 0, row, 0, count);
        }
    }

    /** Two walks at once, of which the rule makes the same: what it misses and loses shows there. */
    private static final class Pairs {
        private final Rule rule;
        /** For each node of the one walk the set of nodes of the other. */
        private final long[] met = new long[MOST_NODES];
        private final long[] done = new long[MOST_NODES];
        private boolean missKnown = false;
        private boolean surjective = false;
        private boolean lossKnown = false;
        private boolean injective = false;

        Pairs(Rule rule) {
            this.rule = rule;
        }

        void forget() {
            missKnown = false;
            lossKnown = false;
        }

        boolean missesNothing() {
            if (!missKnown) {
                missKnown = true;
                surjective = !partAndMeet();
            }
            return surjective;
        }

        boolean losesNothing() {
            if (!lossKnown) {
                lossKnown = true;
                // A rule that misses something loses something too.
                injective = missesNothing() && !stayApart();
            }
            return injective;
        }

        /**
         * Whether two walks part at a node and meet again. By the Garden of Eden theorem a rule
         * misses something just when that is so, and no sets of nodes need be looked at.
         */
        private boolean partAndMeet() {
            Arrays.fill(met, 0L);
            Arrays.fill(done, 0L);
            for (int node = 0; node < rule.nodes; node++) {
                partAt(node);
            }
            // Each pass but the last looks at a pair that is new.
            boolean more = true;
            for (int pass = 0; pass <= MOST_NODES * MOST_NODES && more; pass++) {
                more = false;
                for (int a = 0; a < rule.nodes; a++) {
                    long fresh = met[a] & ~done[a];
                    if (fresh != 0) {
                        more = true;
                        done[a] |= fresh;
                        if (meetsBehind(a, fresh)) {
                            return true;
                        }
                    }
                }
            }
            return false;
        }

        /** Where W is 1 the two are at the only node again: they meet when they go on from it. */
        private void partAt(int node) {
            int first = node * rule.states;
            for (int c = first; c < first + rule.states; c++) {
                for (int d = c + 1; d < first + rule.states; d++) {
                    if (rule.table[c] == rule.table[d]) {
                        met[rule.end(c)] |= 1L << rule.end(d);
                    }
                }
            }
        }

        /** Goes on from a and each node of the set, and tells whether the two walks meet then. */
        private boolean meetsBehind(int a, long others) {
            for (int b = 0; b < rule.nodes; b++) {
                if ((others >>> b & 1) == 0) {
                    continue;
                }
                for (int c = 0; c < rule.states; c++) {
                    int window = a * rule.states + c;
                    int end = rule.end(window);
                    long ends = rule.behind(b, rule.table[window]);
                    if ((ends >>> end & 1) != 0) {
                        return true;
                    }
                    met[end] |= ends;
                }
            }
            return false;
        }

        /**
         * Whether two walks can stay at different nodes without end. Where no walks part and meet,
         * two different rows of which the same is made are apart without end to one side at least.
         */
        private boolean stayApart() {
            for (int a = 0; a < rule.nodes; a++) {
                met[a] = rule.allNodes() & ~(1L << a);
            }
            // Each pass but the last takes a pair out.
            boolean more = true;
            for (int pass = 0; pass <= MOST_NODES * MOST_NODES && more; pass++) {
                more = false;
                for (int a = 0; a < rule.nodes; a++) {
                    long lasting = lasting(a);
                    more |= lasting != met[a];
                    met[a] = lasting;
                }
            }
            long left = 0;
            for (int a = 0; a < rule.nodes; a++) {
                left |= met[a];
            }
            return left != 0;
        }

        /** Those of the nodes beside a from which the two walks can go on to a pair still there. */
        private long lasting(int a) {
            long found = 0;
            for (int c = 0; c < rule.states; c++) {
                int window = a * rule.states + c;
                long goals = met[rule.end(window)];
                for (int b = 0; b < rule.nodes; b++) {
                    if ((rule.behind(b, rule.table[window]) & goals) != 0) {
                        found |= 1L << b;
                    }
                }
            }
            return found & met[a];
        }
    }

    /** The inverse that counts. */
    private static final class Inverse {
        private final Rule rule;
        private final Pairs pairs;
        /** For each packed U cells the first packed row of which the rule makes them, or NONE. */
        private final int[] origin = new int[MOST_INVERSE_ROWS];
        private boolean known = false;
        private int foundWidth = 0;
        private int foundPlace = 0;

        Inverse(Rule rule, Pairs pairs) {
            this.rule = rule;
            this.pairs = pairs;
        }

        void forget() {
            known = false;
        }

        int width() {
            find();
            return foundWidth;
        }

        int place() {
            find();
            return foundPlace;
        }

        int cellOf(int n) {
            find();
            if (foundWidth == 0 || n < 0 || n >= power(rule.states, foundWidth) || origin[n] < 0) {
                return NONE;
            }
            int behind = foundWidth + rule.width - 2 - foundPlace;
            return origin[n] / power(rule.states, behind) % rule.states;
        }

        private void find() {
            if (known) {
                return;
            }
            known = true;
            foundWidth = 0;
            foundPlace = 0;
            // An inverse tells all cells of a row, so a rule that loses something has none.
            if (!pairs.losesNothing()) {
                return;
            }
            for (int width = 1; width <= MOST_INVERSE_WIDTH && foundWidth == 0; width++) {
                takeLeast(width, placesTold(width));
            }
        }

        private void takeLeast(int width, int places) {
            for (int p = 0; p < width + rule.width - 1; p++) {
                if ((places >> p & 1) != 0) {
                    foundWidth = width;
                    foundPlace = p;
                    return;
                }
            }
        }

        /** The set of places, a bit each, at which all rows with the same made cells are the same. */
        private int placesTold(int width) {
            Arrays.fill(origin, NONE);
            int length = width + rule.width - 1;
            int rows = power(rule.states, length);
            int places = (1 << length) - 1;
            for (int row = 0; row < rows && places != 0; row++) {
                int made = madeOf(row, width);
                if (origin[made] == NONE) {
                    origin[made] = row;
                } else {
                    places &= samePlaces(row, origin[made], length);
                }
            }
            return places;
        }

        private int madeOf(int row, int width) {
            int made = 0;
            int scale = 1;
            int rest = row;
            for (int i = 0; i < width; i++) {
                made += rule.table[rest % rule.windows] * scale;
                scale *= rule.states;
                rest /= rule.states;
            }
            return made;
        }

        private int samePlaces(int row, int other, int length) {
            int places = 0;
            int a = row;
            int b = other;
            for (int p = length - 1; p >= 0; p--) {
                if (a % rule.states == b % rule.states) {
                    places |= 1 << p;
                }
                a /= rule.states;
                b /= rule.states;
            }
            return places;
        }
    }

    /** The basis of the weights that the rule keeps. */
    private static final class Weights {
        private static final int MOST_DIVISIONS = 100;

        private final Rule rule;
        /** Row t is empty, or says what a kept weight is at t by what it is at the states below. */
        private final long[][] ties = new long[MOST_STATES][MOST_STATES];
        private final long[][] basis = new long[MOST_STATES][MOST_STATES];
        private final long[] equation = new long[MOST_STATES];
        private boolean known = false;
        private int found = 0;

        Weights(Rule rule) {
            this.rule = rule;
        }

        void forget() {
            known = false;
        }

        int count() {
            find();
            return found;
        }

        int at(int k, int s) {
            find();
            return k < 0 || k >= found || !rule.hasState(s) ? 0 : (int) basis[k][s];
        }

        private void find() {
            if (known) {
                return;
            }
            known = true;
            for (int t = 0; t < MOST_STATES; t++) {
                Arrays.fill(ties[t], 0L);
            }
            for (int window = 0; window < rule.windows; window++) {
                writeEquation(window);
                tie();
            }
            found = 0;
            for (int s = 1; s < rule.states; s++) {
                if (ties[s][s] == 0) {
                    writeWeight(s, basis[found]);
                    found++;
                }
            }
        }

        /**
         * A weight is kept when each walk that comes back gains nothing, made cells less first
         * cells. Then each node has a gain of its own, that of the walk to it from the node of
         * zeros, and a window gains what the node at its end has more than that at its start.
         */
        private void writeEquation(int window) {
            Arrays.fill(equation, 0L);
            equation[rule.table[window]]++;
            equation[window / rule.nodes]--;
            addGain(rule.end(window), -1);
            addGain(window / rule.states, 1);
            equation[0] = 0;
        }

        private void addGain(int node, int times) {
            int walked = node;
            for (int i = 1; i < rule.width; i++) {
                equation[rule.table[walked]] += times;
                walked /= rule.states;
            }
        }

        /** Takes the equation up as a tie of its greatest state, if it says anything new. */
        private void tie() {
            for (int t = rule.states - 1; t > 0; t--) {
                if (equation[t] == 0) {
                    continue;
                }
                if (ties[t][t] == 0) {
                    System.arraycopy(equation, 0, ties[t], 0, MOST_STATES);
                    return;
                }
                long times = equation[t];
                for (int s = 0; s < rule.states; s++) {
                    equation[s] = equation[s] * ties[t][t] - ties[t][s] * times;
                }
                shorten(equation);
            }
        }

        private void writeWeight(int leader, long[] weight) {
            Arrays.fill(weight, 0L);
            weight[leader] = 1;
            for (int t = leader + 1; t < rule.states; t++) {
                long sum = 0;
                for (int s = 0; s < t; s++) {
                    sum += ties[t][s] * weight[s];
                }
                if (ties[t][t] == 0 || sum == 0) {
                    continue;
                }
                for (int s = 0; s < t; s++) {
                    weight[s] *= ties[t][t];
                }
                weight[t] = -sum;
                shorten(weight);
            }
            if (weight[leader] < 0) {
                for (int s = 0; s < rule.states; s++) {
                    weight[s] = -weight[s];
                }
            }
        }

        private void shorten(long[] numbers) {
            long divisor = 0;
            for (int s = 0; s < MOST_STATES; s++) {
                divisor = commonDivisor(divisor, Math.abs(numbers[s]));
            }
            if (divisor == 0) {
                return;
            }
            for (int s = 0; s < MOST_STATES; s++) {
                numbers[s] /= divisor;
            }
        }

        private static long commonDivisor(long a, long b) {
            long greater = a;
            long lesser = b;
            for (int i = 0; i < MOST_DIVISIONS && lesser != 0; i++) {
                long rest = greater % lesser;
                greater = lesser;
                lesser = rest;
            }
            return greater;
        }
    }

    /** The orphan that counts, looked for by sets of nodes. */
    private static final class Orphan {
        private final Rule rule;
        private final Pairs pairs;
        private final long[] sets = new long[MOST_SETS];
        private final int[] source = new int[MOST_SETS];
        private final int[] reason = new int[MOST_SETS];
        private final long[] ends = new long[MOST_STATES];
        private final int[] row = new int[MOST_SETS];
        private int met = 0;
        private boolean known = false;
        /** How many cells the orphan has; 0 or FULL as the document has it. */
        private int found = 0;

        Orphan(Rule rule, Pairs pairs) {
            this.rule = rule;
            this.pairs = pairs;
        }

        void forget() {
            known = false;
        }

        int length() {
            find();
            return found;
        }

        int cell(int i) {
            find();
            return i < 0 || i >= found ? NONE : row[i];
        }

        private void find() {
            if (known) {
                return;
            }
            known = true;
            found = pairs.missesNothing() ? 0 : search();
        }

        private int search() {
            met = 0;
            meet(rule.allNodes(), NONE, 0);
            for (int at = 0; at < met && met < MOST_SETS; at++) {
                spread(sets[at]);
                for (int s = 0; s < rule.states && met < MOST_SETS; s++) {
                    if (ends[s] == 0) {
                        return write(at, s);
                    }
                    meet(ends[s], at, s);
                }
            }
            return FULL;
        }

        private void meet(long set, int from, int state) {
            for (int i = 0; i < met; i++) {
                if (sets[i] == set) {
                    return;
                }
            }
            sets[met] = set;
            source[met] = from;
            reason[met] = state;
            met++;
        }

        /** For each state the set of nodes that come behind those of this set where it is made. */
        private void spread(long set) {
            Arrays.fill(ends, 0L);
            for (int node = 0; node < rule.nodes; node++) {
                if ((set >>> node & 1) != 0) {
                    for (int s = 0; s < rule.states; s++) {
                        ends[s] |= rule.behind(node, s);
                    }
                }
            }
        }

        /** The orphan is what led to the set, and then the state; answers its length. */
        private int write(int at, int state) {
            int length = 1;
            for (int i = at; i > 0 && length < MOST_SETS; i = source[i]) {
                length++;
            }
            row[length - 1] = state;
            int set = at;
            for (int i = length - 2; i >= 0; i--) {
                row[i] = reason[set];
                set = source[set];
            }
            return length;
        }
    }

    /** The rings before the ring: walks over nodes that come back to where they began. */
    private static final class Past {
        private final Rule rule;
        private final Ring ring;
        /** For each time the set of nodes from which a walk can still come back. */
        private final long[] open = new long[MOST_CELLS + 1];
        private final int[] least = new int[MOST_CELLS];
        private long[] counts = new long[MOST_NODES];
        private long[] later = new long[MOST_NODES];
        private boolean known = false;
        private boolean found = false;
        private boolean counted = false;
        private long total = 0;

        Past(Rule rule, Ring ring) {
            this.rule = rule;
            this.ring = ring;
        }

        void forget() {
            known = false;
            counted = false;
        }

        boolean exists() {
            find();
            return found;
        }

        int cell(int i) {
            find();
            return found && ring.has(i) ? least[i] : NONE;
        }

        long count() {
            if (!counted) {
                counted = true;
                total = 0;
                for (int node = 0; node < rule.nodes; node++) {
                    total += walksBackTo(node);
                }
            }
            return total;
        }

        private void find() {
            if (known) {
                return;
            }
            known = true;
            found = false;
            for (int node = 0; node < rule.nodes && !found; node++) {
                if (comesBackTo(node)) {
                    found = true;
                    trace(node);
                }
            }
        }

        /** What the window that begins at a cell must make: the walk begins with cell 0. */
        private int due(int time) {
            return ring.row[(time + rule.left()) % ring.count];
        }

        private boolean comesBackTo(int node) {
            open[ring.count] = 1L << node;
            for (int time = ring.count - 1; time >= 0; time--) {
                open[time] = leadingInto(open[time + 1], due(time));
            }
            return (open[0] >>> node & 1) != 0;
        }

        private long leadingInto(long set, int state) {
            long nodes = 0;
            for (int node = 0; node < rule.nodes && set != 0; node++) {
                if ((rule.behind(node, state) & set) != 0) {
                    nodes |= 1L << node;
                }
            }
            return nodes;
        }

        /** Nodes are tried from the least on, and so are cells: the first that goes is the least. */
        private void trace(int start) {
            int node = start;
            for (int time = 0; time < ring.count; time++) {
                int c = leastCell(node, time);
                least[(time + rule.width - 1) % ring.count] = c;
                node = rule.end(node * rule.states + c);
            }
        }

        private int leastCell(int node, int time) {
            for (int c = 0; c < rule.states; c++) {
                int window = node * rule.states + c;
                boolean stays = (open[time + 1] >>> rule.end(window) & 1) != 0;
                if (stays && rule.table[window] == due(time)) {
                    return c;
                }
            }
            return 0;
        }

        private long walksBackTo(int node) {
            Arrays.fill(counts, 0L);
            counts[node] = 1;
            for (int time = 0; time < ring.count; time++) {
                goOn(due(time));
            }
            return counts[node];
        }

        private void goOn(int state) {
            // This is the dearest loop of all, so it reads no fields.
            long[] from = counts;
            long[] to = later;
            int[] starts = rule.starts;
            int[] ends = rule.ends;
            int last = rule.sorted[state + 1];
            Arrays.fill(to, 0, rule.nodes, 0L);
            for (int i = rule.sorted[state]; i < last; i++) {
                to[ends[i]] += from[starts[i]];
            }
            counts = to;
            later = from;
        }
    }

    private static int power(int base, int exponent) {
        int product = 1;
        for (int i = 0; i < exponent; i++) {
            product *= base;
        }
        return product;
    }
}
