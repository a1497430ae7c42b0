/** A test for each sentence about the inverse: of the terms, promises 12 and 13. */
public final class InverseSentencesTest {
    /** Rules with the U and p of their inverse: each U from 1 to 5, and p from the first place to the last. */
    private static final String[] TEXTS = {"21T10", "31Ea+1", "41T1302", "22Ea", "22Eb", "34Ea", "34Eb", "34Ec", "24E!d",
        "42Ea-b-b", "42Eb+a+a", "44Ea-b+a", "43Ec+a+c", "43Ec+6*a", "42Ea<2&b<3|b<2?(a+1):(a=3?3:2-a)", "44Ea+d+d",
        "34Ea?d:a-d", "24Eb=(!!(!c*a*d))", "44Ea+!1*(b?d:d*!c)", "44Ed+!1*(c?a:a*!b)", "34Ed<2&d=1&b=0?(!a):a"};
    private static final int[] WIDTHS = {1, 1, 1, 1, 1, 1, 1, 1, 1, 2, 2, 2, 3, 3, 3, 4, 4, 4, 5, 5, 5};
    private static final int[] PLACES = {0, 0, 0, 0, 1, 0, 1, 2, 3, 0, 2, 2, 0, 4, 0, 0, 6, 2, 0, 7, 0};
    /** Rules that lose nothing, but an inverse of theirs is wider than 5. */
    private static final String[] TOO_WIDE = {"34Ed<2|b=1?(a<2?1-a:a):a", "44Ea=1|d<3&d<2?(1<b?1-b:b):(b<2?1-b:b)"};

    public static void main(String[] args) {
        tellsOneCellOfItsRow();
        inverseTellsWidthAndPlace();
        inverseIsTheNarrowest();
        inverseIsAtMostFiveWide();
        inverseIsNoneForOthers();
        inverseRefusesOtherQuestions();
        undoTellsTheCellThatWas();
        undoRefusesOtherNumbers();
        undoIsNoneWithoutInverse();
        areThoseOfTheRuleAsItIs();
        Check.end();
    }

    private static Model modelOf(String text) {
        return Texts.modelOf(Check.with(text), text.charAt(0) - '0', text.charAt(1) - '0');
    }

    private static void tellsOneCellOfItsRow() {
        Check.sentence("whenever the rule makes the same U cells of two rows of U + W - 1 cells, they have the same cell p");
        for (String text : TEXTS) {
            Model model = modelOf(text);
            int[] due = model.inverse();
            LineRules x = Check.with(text);
            for (int n = 2; n < due.length; n++) {
                Check.due("undo(" + (n - 2) + ") of " + text, x.undo(n - 2), due[n]);
                if (n % 400 == 0) {
                    x = Check.with(text);
                }
            }
        }
    }

    private static void inverseTellsWidthAndPlace() {
        Check.sentence("Promise 12: The inverse that counts: U (what = 0), p (1)");
        for (int i = 0; i < TEXTS.length; i++) {
            LineRules x = Check.with(TEXTS[i]);
            Check.due("inverse(0) of " + TEXTS[i], x.inverse(0), WIDTHS[i]);
            Check.due("inverse(1) of " + TEXTS[i], x.inverse(1), PLACES[i]);
            Check.due("inverse(1) first, of " + TEXTS[i], Check.with(TEXTS[i]).inverse(1), PLACES[i]);
            Check.due("injective() of " + TEXTS[i], x.injective(), 1);
        }
    }

    private static void inverseIsTheNarrowest() {
        Check.sentence("The one that counts has the least U, 1 to 5, and of these the least p");
        for (int i = 0; i < TEXTS.length; i++) {
            int[] due = modelOf(TEXTS[i]).inverse();
            Check.due("U of " + TEXTS[i], Check.with(TEXTS[i]).inverse(0), due[0]);
            Check.due("p of " + TEXTS[i], Check.with(TEXTS[i]).inverse(1), due[1]);
        }
    }

    private static void inverseIsAtMostFiveWide() {
        Check.sentence("the least U, 1 to 5; 0 for both when there is none");
        for (String text : TOO_WIDE) {
            LineRules x = Check.with(text);
            Check.due("injective() of " + text, x.injective(), 1);
            Check.due("inverse(0) of " + text, x.inverse(0), 0);
            Check.due("inverse(1) of " + text, x.inverse(1), 0);
            Check.due("undo(0) of " + text, x.undo(0), -1);
            Check.isTrue("by all rows, " + text, modelOf(text).inverse() == null);
        }
    }

    private static void inverseIsNoneForOthers() {
        Check.sentence("Promise 12: 0 for both when there is none");
        for (String text : new String[] {"23Ea+c", "21T00", "31T011", "44E0", "22Ea+b", "24T1010010101011010", "44Ea*b"}) {
            LineRules x = Check.with(text);
            Check.due("inverse(0) of " + text, x.inverse(0), 0);
            Check.due("inverse(1) of " + text, x.inverse(1), 0);
        }
    }

    private static void inverseRefusesOtherQuestions() {
        Check.sentence("Promise 12: NONE also for another what");
        for (String text : new String[] {"44Ed+!1*(c?a:a*!b)", "23Ea+c", "21Ea"}) {
            LineRules x = Check.with(text);
            for (int what : new int[] {-1, 2, 3, -2, Check.LEAST, Check.MOST}) {
                Check.due("inverse(" + what + ") of " + text, x.inverse(what), -1);
            }
            Check.isTrue("inverse(0) is none of these", x.inverse(0) >= 0);
            Check.isTrue("inverse(1) is none of these", x.inverse(1) >= 0);
        }
    }

    /** Steps a ring, and has each cell told by the U cells that were made round it. */
    private static void undoTellsTheCellThatWas() {
        Check.sentence("Promise 13: The cell that the inverse tells of packed U cells");
        for (int i = 0; i < TEXTS.length; i++) {
            LineRules x = Check.with(TEXTS[i]);
            Model model = new Model(TEXTS[i].charAt(0) - '0', TEXTS[i].charAt(1) - '0', null);
            int[] cells = new int[64];
            for (int j = 0; j < 64; j++) {
                cells[j] = (j * j + j / 3 + j / 7) % model.states;
            }
            Check.fill(x, cells);
            x.step(1);
            int left = (model.width - 1) / 2;
            for (int j = 0; j < 64; j++) {
                int[] made = new int[WIDTHS[i]];
                for (int k = 0; k < made.length; k++) {
                    made[k] = x.get(Math.floorMod(j + left - PLACES[i] + k, 64));
                }
                Check.due("undo for cell " + j + " of " + TEXTS[i], x.undo(model.pack(made)), cells[j]);
            }
        }
    }

    private static void undoRefusesOtherNumbers() {
        Check.sentence("Promise 13: NONE also when n is not 0 .. K^U - 1");
        for (int i = 0; i < TEXTS.length; i++) {
            LineRules x = Check.with(TEXTS[i]);
            int count = Model.power(TEXTS[i].charAt(0) - '0', WIDTHS[i]);
            for (int n : new int[] {-1, count, count + 1, 1024, 4096, -count, Check.LEAST, Check.MOST}) {
                Check.due("undo(" + n + ") of " + TEXTS[i], x.undo(n), -1);
            }
            Check.isTrue("undo(0) of " + TEXTS[i], x.undo(0) >= 0);
            Check.isTrue("undo(" + (count - 1) + ") of " + TEXTS[i], x.undo(count - 1) >= 0);
        }
    }

    private static void undoIsNoneWithoutInverse() {
        Check.sentence("Promise 13: NONE also when there is no inverse");
        for (String text : new String[] {"23Ea+c", "21T00", "44E0", TOO_WIDE[0], TOO_WIDE[1]}) {
            LineRules x = Check.with("44Ed+!1*(c?a:a*!b)");
            Check.due("there is one", x.undo(0), 0);
            Check.read(x, text);
            for (int n : new int[] {-1, 0, 1, 2, 3, 4, 15, 16, 1023, 1024, Check.LEAST, Check.MOST}) {
                Check.due("undo(" + n + ") of " + text, x.undo(n), -1);
            }
        }
    }

    private static void areThoseOfTheRuleAsItIs() {
        Check.sentence("inverse() and undo() tell of the rule as it is");
        LineRules x = Check.with("34Ed+1");
        Check.due("U", x.inverse(0), 1);
        Check.due("p", x.inverse(1), 3);
        Check.due("undo(0)", x.undo(0), 2);
        Check.due("a new rule", Check.read(x, "23Ea+c"), 2);
        Check.due("none: U", x.inverse(0), 0);
        Check.due("none: p", x.inverse(1), 0);
        Check.due("a new rule", Check.read(x, "42Eb+a+a"), 4);
        Check.due("U", x.inverse(0), 2);
        Check.due("p", x.inverse(1), 2);
        Check.due("a fault", Check.read(x, "21T0"), -14);
        Check.due("leaves U", x.inverse(0), 2);
        Check.due("leaves what is told", x.undo(15), 1);
        Check.due("a new rule", Check.read(x, "21Ea"), 2);
        Check.due("undo(1)", x.undo(1), 1);
        Check.due("p", x.inverse(1), 0);
    }
}
