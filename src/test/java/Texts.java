import java.util.Random;

/** Texts of rules by chance. */
final class Texts {
    private Texts() {
    }

    static String expression(Random dice, int states, int width) {
        while (true) {
            StringBuilder text = new StringBuilder().append(states).append(width).append('E');
            grow(dice, width, text, 4, 0);
            if (text.length() <= 64) {
                return text.toString();
            }
        }
    }

    /** The rule that an object has, by its own answers of next(n). */
    static Model modelOf(LineRules x, int states, int width) {
        int[] table = new int[Model.power(states, width)];
        for (int n = 0; n < table.length; n++) {
            table[n] = x.next(n);
        }
        return new Model(states, width, table);
    }

    /** Writes an expression that is mostly without fault. */
    static void grow(Random dice, int width, StringBuilder text, int depth, int level) {
        if (level == 0) {
            grow(dice, width, text, depth, 1);
            if (depth > 0 && dice.nextInt(3) == 0) {
                text.append('?');
                grow(dice, width, text, depth - 1, 0);
                text.append(':');
                grow(dice, width, text, depth - 1, 0);
            }
        } else if (level < 6) {
            grow(dice, width, text, depth, level + 1);
            String signs = new String[] {"|", "&", "=<", "+-", "*"}[level - 1];
            while (dice.nextInt(6) == 0) {
                text.append(signs.charAt(dice.nextInt(signs.length())));
                grow(dice, width, text, depth, level + 1);
                if (level == 3) {
                    break;
                }
            }
        } else if (dice.nextInt(6) == 0) {
            text.append('!');
            grow(dice, width, text, depth, 6);
        } else if (depth > 0 && dice.nextInt(4) == 0) {
            text.append('(');
            grow(dice, width, text, depth - 1, 0);
            text.append(')');
        } else {
            text.append(dice.nextInt(4) == 0 ? (char) ('0' + dice.nextInt(10)) : (char) ('a' + dice.nextInt(width)));
        }
    }
}
