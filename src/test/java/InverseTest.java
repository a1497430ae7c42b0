import java.util.Random;

/** Promises 12 and 13 for many rules: inverse and undo. */
public final class InverseTest {
    private static final int[] WIDTHS_SEEN = new int[6];

    public static void main(String[] args) {
        oneWide();
        fourWideOfTwo();
        partialShifts();
        byChance();
        wideOnes();
        for (int u = 1; u <= 5; u++) {
            Check.isTrue("an inverse of width " + u + " was looked at", WIDTHS_SEEN[u] > 0);
        }
        Check.end();
    }

    private static void compare(String text, Model model) {
        LineRules x = Check.with(text);
        int[] due = model.inverse();
        Check.due("U of " + text, x.inverse(0), due == null ? 0 : due[0]);
        Check.due("p of " + text, x.inverse(1), due == null ? 0 : due[1]);
        int cells = due == null ? 0 : due.length - 2;
        LineRules asked = x;
        for (int n = 0; n < cells; n++) {
            // An object is used for at most 512 calls.
            asked = n % 200 == 199 ? Check.with(text) : asked;
            Check.due("undo(" + n + ") of " + text, asked.undo(n), due[n + 2]);
        }
        Check.due("undo behind, of " + text, x.undo(cells), -1);
        Check.due("undo before, of " + text, x.undo(-1), -1);
        if (due != null) {
            WIDTHS_SEEN[due[0]]++;
        }
    }

    private static void oneWide() {
        for (int n = 0; n < 256; n++) {
            Model model = new Model(4, 1, new Model(4, 1, null).unpack(n, 4));
            compare(model.text(), model);
        }
    }

    /** Among all rules of two states and four cells those that lose nothing are few. */
    private static void fourWideOfTwo() {
        int found = 0;
        for (int number = 0; number < 65536; number++) {
            if (Integer.bitCount(number) != 8) {
                continue;
            }
            int[] table = new int[16];
            for (int i = 0; i < 16; i++) {
                table[i] = number >> i & 1;
            }
            Model model = new Model(2, 4, table);
            LineRules x = Check.with(model.text());
            if (x.injective() == 1) {
                found++;
                compare(model.text(), model);
            } else if (number % 16 == 0) {
                compare(model.text(), model);
            }
        }
        Check.due("rules of two states and four cells that lose nothing", found, 16);
    }

    /** The two halves of each state go different ways, between two permutations of the states. */
    private static Model partialShift(Random dice) {
        int[] before = Model.permutive(dice, 4, 1).table;
        int[] after = Model.permutive(dice, 4, 1).table;
        int[] table = new int[16];
        for (int n = 0; n < 16; n++) {
            table[n] = after[(before[n / 4] & 2) + (before[n % 4] & 1)];
        }
        return new Model(4, 2, table);
    }

    private static void partialShifts() {
        Random dice = new Random(2);
        for (int round = 0; round < 40; round++) {
            Model model = partialShift(dice);
            LineRules x = Check.with(model.text());
            Check.due("injective " + model.text(), x.injective(), 1);
            compare(model.text(), model);
        }
    }

    private static void byChance() {
        Random dice = new Random(9);
        int[][] shapes = {{2, 2}, {2, 3}, {3, 2}, {4, 2}, {2, 4}, {3, 3}};
        for (int round = 0; round < 120; round++) {
            int[] shape = shapes[round % shapes.length];
            Model model = round % 2 == 0 ? Model.random(dice, shape[0], shape[1]) : Model.permutive(dice, shape[0], shape[1]);
            compare(model.text(), model);
        }
    }

    /** Rules that lose nothing, with inverses at many places, and some with none so narrow. */
    private static void wideOnes() {
        String[] texts = {"42Ea<2&b<3|b<2?(a+1):(a=3?3:2-a)", "42Ea=1|b<2&a<2?(1<b?1-b:b):(b<2?1-b:b)",
            "33Ec<2|a<2&b=0?(a<2?1-a:a):a", "33Ec=0|c=1&a=0?(b+1):(b<2?1-b:b)", "33Ea=1|a<2&c<2?(b<2?1-b:b):b",
            "33Ea<2|b=1?(c<2?1-c:c):c", "43Ec=1&a<2|c<1?(b+1):(b=3?3:2-b)", "34Ed<2&d=1&b=0?(!a):a",
            "34Ec<2|a<1&d=0?(b<2?1-b:b):b", "34Eb<0|a=0&d=1?(!b):b", "34Ed=2&a=1&a=1?(c+2):(c<2?1-c:c)",
            "34Eb=0|d=0&a<2?(c+1):(c<2?1-c:c)", "34Ea=1&c=0?(!d):(d)", "44Ed<2&b<2|d=1?(b=3?3:2-b):(b+1)",
            "44Ea=0&c=3?(1<d?1-d:d):d", "34Ed<2|b=1?(a<2?1-a:a):a", "44Ea=1|d<3&d<2?(1<b?1-b:b):(b<2?1-b:b)"};
        int[] widths = {3, 3, 4, 4, 4, 4, 5, 5, 5, 5, 5, 5, 5, 5, 5, 0, 0};
        for (int i = 0; i < texts.length; i++) {
            LineRules x = Check.with(texts[i]);
            Check.due("injective " + texts[i], x.injective(), 1);
            Check.due("U of " + texts[i], x.inverse(0), widths[i]);
            Model model = Texts.modelOf(x, texts[i].charAt(0) - '0', texts[i].charAt(1) - '0');
            Check.isTrue("injective " + texts[i], model.injective());
            compare(texts[i], model);
        }
    }
}
