import java.util.function.IntBinaryOperator;
import java.util.function.ToIntFunction;

/** A test for each sentence about expressions: what may stand where, and what its value is. */
public final class ExpressionSentencesTest {
    private static final String SIGNS = "?|&=<+-*";
    private static final String PARTS = "0123456789abc!(";

    public static void main(String[] args) {
        choiceTakesFirstIfNotZero();
        choiceHoldsChoices();
        eitherIsGreatest();
        bothIsLeast();
        testIsOneOrZero();
        testHasAtMostTwoSums();
        sumGoesFromTheLeft();
        productIsOfParts();
        partMayBeDigit();
        partMayBeLetterOfItsCells();
        partMayBeBracket();
        partMayBeTurned();
        valuesAreModuloStates();
        signsBindByTheirKind();
        atMostFourAreOpen();
        fifthOpenOneIsFault();
        bracketIsOpenUntilItsEnd();
        questionIsOpenUntilItsEnd();
        onlyWhatCanStandStands();
        Check.end();
    }

    /** The rule of four states and four cells makes this of each window. */
    private static void makes(String expression, ToIntFunction<int[]> due) {
        LineRules x = Check.with("44E" + expression);
        Model model = new Model(4, 4, null);
        for (int n = 0; n < 256; n++) {
            int want = Math.floorMod(due.applyAsInt(model.unpack(n, 4)), 4);
            Check.due(expression + " of " + n, x.next(n), want);
        }
    }

    /** A chain of so many parts with a sign between them, the cells in their turn. */
    private static String chain(char sign, int parts) {
        StringBuilder text = new StringBuilder();
        for (int i = 0; i < parts; i++) {
            text.append(i == 0 ? "" : "" + sign).append((char) ('a' + i % 4));
        }
        return text.toString();
    }

    /** One part, some, and as many as a text can hold, joined from the left on. */
    private static void joins(char sign, IntBinaryOperator join) {
        for (int parts : new int[] {1, 2, 3, 4, 5, 31}) {
            makes(chain(sign, parts), cells -> {
                int value = cells[0];
                for (int i = 1; i < parts; i++) {
                    value = Math.floorMod(join.applyAsInt(value, cells[i % 4]), 4);
                }
                return value;
            });
        }
    }

    private static void choiceTakesFirstIfNotZero() {
        Check.sentence("its value is that of the first choice if the either is not 0, otherwise that of the second");
        makes("a?b:c", c -> c[0] != 0 ? c[1] : c[2]);
        makes("a|b?c:d", c -> c[0] != 0 || c[1] != 0 ? c[2] : c[3]);
        makes("a-b?c:d", c -> c[0] != c[1] ? c[2] : c[3]);
        for (int asked = 0; asked < 4; asked++) {
            Check.due(asked + "?1:2", Check.with("41E" + asked + "?1:2").next(0), asked == 0 ? 2 : 1);
        }
    }

    private static void choiceHoldsChoices() {
        Check.sentence("an either, ?, a choice, : and a choice");
        makes("a?b?1:2:3", c -> c[0] != 0 ? c[1] != 0 ? 1 : 2 : 3);
        makes("a?1:b?2:3", c -> c[0] != 0 ? 1 : c[1] != 0 ? 2 : 3);
        makes("a?b?1:2:c?3:d", c -> c[0] != 0 ? c[1] != 0 ? 1 : 2 : c[2] != 0 ? 3 : c[3]);
        makes("a?b|c:c|d", c -> c[0] != 0 ? Math.max(c[1], c[2]) : Math.max(c[2], c[3]));
        makes("a?b:c+d", c -> c[0] != 0 ? c[1] : c[2] + c[3]);
        Check.fault("44Ea?b", 6);
        Check.fault("44Ea?b:", 7);
        Check.fault("44Ea?:b", 5);
        Check.fault("44E?b:c", 3);
        Check.fault("44Ea:b", 4);
        Check.fault("44Ea?b:c:d", 8);
    }

    private static void eitherIsGreatest() {
        Check.sentence("An either is one or more BOTHS with | between them: the greatest of them");
        joins('|', Math::max);
        Check.fault("44Ea|", 5);
        Check.fault("44E|a", 3);
        Check.fault("44Ea||b", 5);
    }

    private static void bothIsLeast() {
        Check.sentence("A both is one or more TESTS with & between them: the least");
        joins('&', Math::min);
        Check.fault("44Ea&", 5);
        Check.fault("44E&a", 3);
        Check.fault("44Ea&&b", 5);
    }

    private static void testIsOneOrZero() {
        Check.sentence("A test is a SUM, or two of them with = or < between them: 1 if that is so, otherwise 0");
        makes("a=b", c -> c[0] == c[1] ? 1 : 0);
        makes("a<b", c -> c[0] < c[1] ? 1 : 0);
        makes("a+b=c-d", c -> (c[0] + c[1]) % 4 == Math.floorMod(c[2] - c[3], 4) ? 1 : 0);
        makes("a-b<c+d", c -> Math.floorMod(c[0] - c[1], 4) < (c[2] + c[3]) % 4 ? 1 : 0);
        makes("a+b", c -> c[0] + c[1]);
    }

    private static void testHasAtMostTwoSums() {
        Check.sentence("A test is a SUM, or two of them");
        for (String first : new String[] {"=", "<"}) {
            Check.fault("44Ea" + first, 5);
            Check.fault("44E" + first + "a", 3);
            for (String second : new String[] {"=", "<"}) {
                Check.fault("44Ea" + first + "b" + second + "c", 6);
                Check.fault("44Ea" + first + second + "b", 5);
                Check.fault("44Ea" + first + "b+c" + second + "d", 8);
                Check.fault("44E(a" + first + "b" + second + "c)", 7);
            }
        }
        makes("(a<b)=(c<d)", c -> c[0] < c[1] == c[2] < c[3] ? 1 : 0);
        makes("a=b&b=c&c=d", c -> c[0] == c[1] && c[1] == c[2] && c[2] == c[3] ? 1 : 0);
        makes("a=b|c<d", c -> c[0] == c[1] || c[2] < c[3] ? 1 : 0);
        makes("a=b?c=d:c<d", c -> (c[0] == c[1] ? c[2] == c[3] : c[2] < c[3]) ? 1 : 0);
    }

    private static void sumGoesFromTheLeft() {
        Check.sentence("A sum is one or more PRODUCTS with + or - between them, from the left on");
        joins('+', (a, b) -> a + b);
        joins('-', (a, b) -> a - b);
        makes("a-b+c", c -> c[0] - c[1] + c[2]);
        makes("a-b-c+d", c -> c[0] - c[1] - c[2] + c[3]);
        makes("a+b-c-d", c -> c[0] + c[1] - c[2] - c[3]);
        Check.fault("44E-a", 3);
        Check.fault("44E+a", 3);
        Check.fault("44Ea+-b", 5);
        Check.fault("44Ea-", 5);
    }

    private static void productIsOfParts() {
        Check.sentence("A product is one or more PARTS with * between them");
        joins('*', (a, b) -> a * b);
        Check.fault("44E*a", 3);
        Check.fault("44Ea*", 5);
        Check.fault("44Ea**b", 5);
        Check.fault("44Eab", 4);
        Check.fault("44E2a", 4);
        Check.fault("44Ea(b)", 4);
    }

    /** The document says 'a digit' here, and not 'a digit below K': its value is modulo K. */
    private static void partMayBeDigit() {
        Check.sentence("A part is a digit; all values are modulo K");
        for (int states = 2; states <= 4; states++) {
            for (int digit = 0; digit <= 9; digit++) {
                Check.due(digit + " of " + states, Check.with(states + "1E" + digit).next(0), digit % states);
                Check.due("a+" + digit, Check.with(states + "1Ea+" + digit).next(1), (1 + digit) % states);
            }
        }
        Check.fault("21E00", 4);
        Check.fault("21E10", 4);
        Check.fault("21E/", 3);
        Check.fault("21E:", 3);
    }

    private static void partMayBeLetterOfItsCells() {
        Check.sentence("a letter (a for the first of the W cells, b the second, c, d, as many as there are)");
        for (int width = 1; width <= 4; width++) {
            for (char c = 'A'; c <= 'z'; c++) {
                String text = "3" + width + "E" + c;
                if (c >= 'a' && c < 'a' + width) {
                    Check.with(text);
                } else {
                    Check.fault(text, 3);
                }
            }
        }
        makes("a", c -> c[0]);
        makes("b", c -> c[1]);
        makes("c", c -> c[2]);
        makes("d", c -> c[3]);
    }

    private static void partMayBeBracket() {
        Check.sentence("a choice in ( and )");
        makes("(a)", c -> c[0]);
        makes("(a?b:c)*d", c -> (c[0] != 0 ? c[1] : c[2]) * c[3]);
        makes("a-(b-c)", c -> c[0] - (c[1] - c[2]));
        makes("a*(b+c)", c -> c[0] * (c[1] + c[2]));
        makes("(a|b)&(c|d)", c -> Math.min(Math.max(c[0], c[1]), Math.max(c[2], c[3])));
        Check.fault("44E()", 4);
        Check.fault("44E(", 4);
        Check.fault("44E(a", 5);
        Check.fault("44E(a))", 6);
        Check.fault("44Ea)", 4);
        Check.fault("44E)", 3);
        Check.fault("44E(a?b)", 7);
        Check.fault("44E(a:b)", 5);
        Check.fault("44Ea?(b:c)", 7);
    }

    private static void partMayBeTurned() {
        Check.sentence("! and a part: K - 1 less that");
        makes("!a", c -> 3 - c[0]);
        makes("!!a", c -> c[0]);
        makes("!!!a", c -> 3 - c[0]);
        makes("!a*b", c -> (3 - c[0]) * c[1]);
        makes("a*!b", c -> c[0] * (3 - c[1]));
        makes("a-!!b", c -> c[0] - c[1]);
        makes("!(a+b)", c -> 3 - (c[0] + c[1]) % 4);
        makes("!(a=b)", c -> c[0] == c[1] ? 2 : 3);
        Check.due("!a of three states", Check.with("31E!a").next(0), 2);
        Check.due("!a of three states", Check.with("31E!a").next(2), 0);
        Check.due("!a of two states", Check.with("21E!a").next(0), 1);
        Check.fault("44E!", 4);
        Check.fault("44Ea!", 4);
        Check.fault("44Ea!b", 4);
        Check.fault("44E!+a", 4);
        StringBuilder turns = new StringBuilder("31E");
        for (int i = 0; i < 60; i++) {
            turns.append('!');
        }
        Check.due("sixty turns", Check.with(turns + "a").next(2), 2);
        Check.due("sixty turns less one", Check.with(turns.substring(0, 62) + "a").next(2), 0);
    }

    private static void valuesAreModuloStates() {
        Check.sentence("All values are modulo K, 0 .. K - 1");
        makes("a+b", c -> c[0] + c[1]);
        makes("a-b", c -> c[0] - c[1]);
        makes("a*b", c -> c[0] * c[1]);
        makes("a+b?1:0", c -> (c[0] + c[1]) % 4 != 0 ? 1 : 0);
        makes("a+b=0", c -> (c[0] + c[1]) % 4 == 0 ? 1 : 0);
        makes("a-b|c", c -> Math.max(Math.floorMod(c[0] - c[1], 4), c[2]));
        makes("a*b&c", c -> Math.min(c[0] * c[1] % 4, c[2]));
        makes("!(a*b)", c -> 3 - c[0] * c[1] % 4);
        makes("4?1:2", c -> 2);
        makes("!7", c -> 0);
        makes("9<b", c -> 1 < c[1] ? 1 : 0);
        Check.due("2+2 of three states", Check.with("31Ea+a").next(2), 1);
        Check.due("0-1 of three states", Check.with("31Ea-1").next(0), 2);
        Check.due("1+1 of two states", Check.with("21Ea+a").next(1), 0);
    }

    private static void signsBindByTheirKind() {
        Check.sentence("An either is of boths, a both of tests, a test of sums, a sum of products, a product of parts");
        makes("a|b&c", c -> Math.max(c[0], Math.min(c[1], c[2])));
        makes("a&b|c", c -> Math.max(Math.min(c[0], c[1]), c[2]));
        makes("a&b=c", c -> Math.min(c[0], c[1] == c[2] ? 1 : 0));
        makes("a=b&c", c -> Math.min(c[0] == c[1] ? 1 : 0, c[2]));
        makes("a|b<c", c -> Math.max(c[0], c[1] < c[2] ? 1 : 0));
        makes("a=b+c", c -> c[0] == (c[1] + c[2]) % 4 ? 1 : 0);
        makes("a+b<c", c -> (c[0] + c[1]) % 4 < c[2] ? 1 : 0);
        makes("a+b*c", c -> c[0] + c[1] * c[2]);
        makes("a*b-c*d", c -> c[0] * c[1] - c[2] * c[3]);
        makes("a|b&c=d", c -> Math.max(c[0], Math.min(c[1], c[2] == c[3] ? 1 : 0)));
    }

    /** Writes each nesting of so many brackets and choices: 0 is (, 1 and 2 are ? with its first or second choice. */
    private static String nested(int kinds, int count, boolean closed) {
        StringBuilder text = new StringBuilder("44E");
        StringBuilder rest = new StringBuilder();
        for (int i = 0; i < count; i++) {
            int kind = kinds / Model.power(3, i) % 3;
            text.append(kind == 0 ? "(" : "a?");
            if (i < 4) {
                text.append(kind == 2 ? "b:" : "");
                rest.insert(0, kind == 0 ? ")" : kind == 1 ? ":c" : "");
            }
        }
        return closed ? text + "d" + rest : text.toString();
    }

    private static void atMostFourAreOpen() {
        Check.sentence("At most 4 of ( and ? are OPEN at a time");
        for (int count = 0; count <= 4; count++) {
            for (int kinds = 0; kinds < Model.power(3, count); kinds++) {
                Check.with(nested(kinds, count, true));
            }
        }
    }

    private static void fifthOpenOneIsFault() {
        Check.sentence("The FAULT is the first character that cannot stand where it is (also a fifth open one)");
        for (int kinds = 0; kinds < Model.power(3, 5); kinds++) {
            String text = nested(kinds, 5, false);
            Check.fault(text, text.length() - 1);
            Check.fault(text + "d", text.length() - 1);
        }
        Check.fault("44E(((((a)))))", 7);
        Check.fault("44Ea?b?c?d?a?1:2:3:0:1:2", 12);
        Check.fault("44Ea?1:b?1:c?1:d?1:a?1:2", 20);
    }

    private static void bracketIsOpenUntilItsEnd() {
        Check.sentence("OPEN: ( until its )");
        Check.with("44E(a)+(b)+(c)+(d)+(a)+(b)");
        Check.with("44E((((a))))+((((b))))");
        Check.with("44E((((a)+(b))+(c))+(d))+(a)");
        Check.with("44E((((a)+b)?c:d))");
        Check.with("44Ea?(((b))):(((c)))");
        Check.fault("44E((((a)+(b)+((c", 15);
        Check.fault("44E((((a)))+((((b", 15);
        Check.fault("44E((((a)?b:(c", 12);
        Check.fault("44E((((a?b", 8);
        Check.fault("44Ea?((((b", 8);
    }

    private static void questionIsOpenUntilItsEnd() {
        Check.sentence("OPEN: ? until the end of its second choice");
        Check.with("44E(a?b:c)+(a?b:c)+(a?b:c)+(a?b:c)+(a?b:c)");
        Check.with("44Ea?b?c?d?0:1:2:3:b?c?d?0:1:2:3");
        Check.with("44E(((a?b:c)?b:c)?b:c)?b:c");
        Check.with("44E(((a?b:c)+(a?b:c))?b:c)");
        // The second choice goes on to the end of the text, or to the sign that ends what it stands in.
        Check.fault("44Ea?b?c?d?0:1:2:3:b?c?d?a?", 26);
        Check.fault("44Ea?1:b?1:c?1:d+((1", 18);
        Check.fault("44E(((a?b:(c", 10);
        Check.fault("44E(((a?b:c?", 11);
        Check.fault("44E(((a?b:c)?b:(c?", 17);
    }

    private static void stand(String text, String fitting) {
        for (char c = 32; c <= 126; c++) {
            boolean fits = fitting.indexOf(c) >= 0;
            boolean refused = Check.read(new LineRules(), text + c) == -10 - text.length();
            Check.due(c + " behind " + text + " is refused", refused ? 1 : 0, fits ? 0 : 1);
        }
    }

    private static void onlyWhatCanStandStands() {
        Check.sentence("The FAULT is the first character that cannot stand where it is");
        String beginnings = ",!,!!,(,a+,a-,a*,a|,a&,a=,a<,a?,a?b:,a?b?,a=b&,a=b?,(a?,(a)+,((a)<,a?(,a?b:(";
        for (String beginning : beginnings.split(",")) {
            stand("43E" + beginning, PARTS);
        }
        for (String ended : "a,5,!a,(a),a+b,a*b,a|b,a&b,a=b&c,a=b|c,a<b&c,(a=b),a?b:c,a?b=c:a,a?b?c:a:b".split(",")) {
            stand("43E" + ended, SIGNS);
        }
        for (String tested : "a=b,a<b,a=b+c,a=(b=c),a<b*c,a|b=c,a?b:c=a,(a)=b".split(",")) {
            stand("43E" + tested, "?|&+-*");
        }
        for (String bracket : "(a,((a),(a?b:c,a?(b,a?b:(c,(a=b&c,((a=b),a?b?c:(a".split(",")) {
            stand("43E" + bracket, SIGNS + ")");
        }
        for (String asked : "a?b,a?(b),(a?b,a?b?c,a?b?c:a,a?b:c?a,a=b?c,a?b=c&a".split(",")) {
            stand("43E" + asked, SIGNS + ":");
        }
        stand("43E(a=b", "?|&+-*)");
        stand("43Ea?b=c", "?|&+-*:");
        stand("43E((((", "0123456789abc!");
        stand("43E(((a?", "0123456789abc!");
        stand("43Ea?b?c?a?", "0123456789abc!");
        stand("43E((((a", "|&=<+-*)");
        stand("43E(((a?b", "|&=<+-*:");
        stand("43E(((a?b:c", "|&=<+-*)");
        stand("43Ea?1:b?1:c?1:a?1:b", "|&=<+-*");
    }
}
