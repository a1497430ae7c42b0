/** Counts the answers that are not as due, and ends a test. */
final class Check {
    static final int LEAST = Integer.MIN_VALUE;
    static final int MOST = Integer.MAX_VALUE;

    private static int wrong = 0;
    private static int asked = 0;
    private static String sentence = "";

    private Check() {
    }

    /** What is asked from now on holds this sentence of the document. */
    static void sentence(String words) {
        sentence = "'" + words + "': ";
    }

    static void due(String what, long got, long want) {
        asked++;
        if (got != want) {
            wrong++;
            System.out.println(sentence + what + " answered " + got + ", due is " + want);
        }
    }

    static void isTrue(String what, boolean so) {
        due(what, so ? 1 : 0, 1);
    }

    static void end() {
        System.out.println(wrong == 0 ? asked + " answers are as due" : wrong + " of " + asked + " answers are not as due");
        if (wrong != 0) {
            System.exit(1);
        }
    }

    /** Puts a text in, and checks each count on the way. */
    static void load(LineRules x, String text) {
        for (int i = 0; i < text.length(); i++) {
            due("load of " + text + " at " + i, x.load(text.charAt(i)), i + 1);
        }
    }

    static int read(LineRules x, String text) {
        load(x, text);
        return x.rule();
    }

    /** A new object with this rule, which must be without fault. */
    static LineRules with(String text) {
        LineRules x = new LineRules();
        due("rule of " + text, read(x, text), text.charAt(0) - '0');
        return x;
    }

    static void fault(String text, int place) {
        due("rule of " + text, read(new LineRules(), text), -10 - place);
    }

    static void fill(LineRules x, int... cells) {
        x.ring(cells.length);
        for (int i = 0; i < cells.length; i++) {
            x.set(i, cells[i]);
        }
    }

    static void cells(String what, LineRules x, int... want) {
        for (int i = 0; i < want.length; i++) {
            due(what + ": get(" + i + ")", x.get(i), want[i]);
        }
        due(what + ": get(" + want.length + ")", x.get(want.length), LineRules.NONE);
    }
}
