import java.util.ArrayDeque;
import java.util.Random;

/** Promise 3 against a reader without recursion, for many texts right and wrong. */
public final class ReadingTest {
    private static final String SIGNS = "0123456789abcd!()?:|&=<+-* eTA";

    public static void main(String[] args) {
        Random dice = new Random(7);
        for (int round = 0; round < 6000; round++) {
            int states = 2 + dice.nextInt(3);
            int width = 1 + dice.nextInt(4);
            StringBuilder text = new StringBuilder().append(states).append(width).append('E');
            Texts.grow(dice, width, text, 4, 0);
            for (int i = dice.nextInt(3); i > 0; i--) {
                spoil(dice, text);
            }
            text.setLength(Math.min(64, text.length()));
            compare(text.toString());
        }
        Check.end();
    }

    private static void compare(String text) {
        LineRules x = new LineRules();
        int got = Check.read(x, text);
        if (text.length() < 3 || !text.substring(0, 3).matches("[234][1234]E")) {
            return;
        }
        int states = text.charAt(0) - '0';
        int width = text.charAt(1) - '0';
        Slow first = new Slow(text, states, new int[width]);
        first.read();
        Check.due("rule of " + text, got, first.fault < 0 ? states : -10 - first.fault);
        Model model = new Model(states, width, null);
        for (int n = 0; first.fault < 0 && n < Model.power(states, width); n++) {
            Slow slow = new Slow(text, states, model.unpack(n, width));
            Check.due(text + " of " + n, x.next(n), slow.read());
        }
    }

    private static void spoil(Random dice, StringBuilder text) {
        int at = 3 + dice.nextInt(Math.max(1, text.length() - 3));
        char sign = SIGNS.charAt(dice.nextInt(SIGNS.length()));
        switch (dice.nextInt(4)) {
            case 0:
                text.insert(Math.min(at, text.length()), sign);
                break;
            case 1:
                text.setLength(at);
                break;
            case 2:
                if (at < text.length()) {
                    text.deleteCharAt(at);
                }
                break;
            default:
                if (at < text.length()) {
                    text.setCharAt(at, sign);
                }
        }
    }

    /** Reads by two stacks, one of values and one of signs that wait. */
    private static final class Slow {
        private final String text;
        private final int states;
        private final int[] cells;
        private final ArrayDeque<Integer> values = new ArrayDeque<>();
        private final ArrayDeque<Character> waiting = new ArrayDeque<>();
        private int open = 0;
        int fault = -1;

        Slow(String text, int states, int[] cells) {
            this.text = text;
            this.states = states;
            this.cells = cells;
        }

        int read() {
            boolean wantsPart = true;
            for (int i = 3; i < text.length(); i++) {
                char c = text.charAt(i);
                boolean fits = wantsPart ? part(c) : sign(c);
                if (!fits) {
                    fault = i;
                    return 0;
                }
                wantsPart = wantsPart ? c == '!' || c == '(' : c != ')';
            }
            if (!wantsPart) {
                settle(0);
            }
            if (wantsPart || !waiting.isEmpty()) {
                fault = text.length();
                return 0;
            }
            return values.pop();
        }

        private boolean part(char c) {
            if (c == '!') {
                waiting.push(c);
                return true;
            }
            if (c == '(') {
                waiting.push(c);
                return ++open <= 4;
            }
            if (Character.isDigit(c)) {
                values.push((c - '0') % states);
            } else if (c >= 'a' && c - 'a' < cells.length) {
                values.push(cells[c - 'a']);
            } else {
                return false;
            }
            turn();
            return true;
        }

        private void turn() {
            while (!waiting.isEmpty() && waiting.peek() == '!') {
                waiting.pop();
                values.push(states - 1 - values.pop());
            }
        }

        private static int rank(char c) {
            return c == '*' ? 6 : "+-".indexOf(c) >= 0 ? 5 : "=<".indexOf(c) >= 0 ? 4 : c == '&' ? 3 : c == '|' ? 2
                    : c == ':' ? 1 : -1;
        }

        private void settle(int rank) {
            while (!waiting.isEmpty() && rank(waiting.peek()) >= Math.max(rank, 1)) {
                char c = waiting.pop();
                int b = values.pop();
                int a = values.pop();
                if (c == ':') {
                    open--;
                    values.push(values.pop() != 0 ? a : b);
                } else {
                    int value = c == '*' ? a * b : c == '+' ? a + b : c == '-' ? a - b : c == '=' ? (a == b ? 1 : 0)
                            : c == '<' ? (a < b ? 1 : 0) : c == '&' ? Math.min(a, b) : Math.max(a, b);
                    values.push(Math.floorMod(value, states));
                }
            }
        }

        private boolean sign(char c) {
            if (c == ')' || c == ':') {
                settle(0);
                char partner = c == ')' ? '(' : '?';
                if (waiting.isEmpty() || waiting.peek() != partner) {
                    return false;
                }
                waiting.pop();
                if (c == ')') {
                    open--;
                    turn();
                } else {
                    waiting.push(':');
                }
                return true;
            }
            if (c == '?') {
                settle(2);
                waiting.push('?');
                return ++open <= 4;
            }
            if (rank(c) < 2) {
                return false;
            }
            boolean test = rank(c) == 4;
            settle(test ? 5 : rank(c));
            if (test && !waiting.isEmpty() && rank(waiting.peek()) == 4) {
                return false;
            }
            waiting.push(c);
            return true;
        }
    }
}
