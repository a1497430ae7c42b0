import java.util.Arrays;
import java.util.List;
import java.util.Random;

/** Promises 10, 11, 16 and 17 for many rules: what a rule misses and loses, and the orphan. */
public final class RowsTest {
    private static final List<Integer> SURJECTIVE = Arrays.asList(15, 30, 45, 51, 60, 75, 85, 86, 89, 90, 101, 102, 105,
            106, 120, 135, 149, 150, 153, 154, 165, 166, 169, 170, 180, 195, 204, 210, 225, 240);
    private static final List<Integer> INJECTIVE = Arrays.asList(15, 51, 85, 170, 204, 240);

    public static void main(String[] args) {
        elementary();
        oneWide();
        orphanByRows();
        byChance();
        wideOnes();
        Check.end();
    }

    private static void elementary() {
        for (int number = 0; number < 256; number++) {
            Model model = Model.ofNumber(number);
            LineRules x = Check.with(model.text());
            Check.due("surjective " + number, x.surjective(), SURJECTIVE.contains(number) ? 1 : 0);
            Check.due("injective " + number, x.injective(), INJECTIVE.contains(number) ? 1 : 0);
            compareOrphan(x, model);
        }
    }

    private static void oneWide() {
        for (int n = 0; n < 256; n++) {
            int[] table = new Model(4, 1, null).unpack(n, 4);
            LineRules x = Check.with(new Model(4, 1, table).text());
            int missing = 0;
            while (missing < 4 && (table[0] == missing || table[1] == missing || table[2] == missing || table[3] == missing)) {
                missing++;
            }
            Check.due("surjective " + n, x.surjective(), missing == 4 ? 1 : 0);
            Check.due("injective " + n, x.injective(), missing == 4 ? 1 : 0);
            Check.due("orphan " + n, x.orphan(), missing == 4 ? 0 : 1);
            Check.due("orphanAt " + n, x.orphanAt(0), missing == 4 ? -1 : missing);
            Check.due("orphanAt " + n, x.orphanAt(1), -1);
        }
    }

    private static void orphanByRows() {
        Random dice = new Random(11);
        for (int round = 0; round < 200; round++) {
            Model model = Model.random(dice, 2 + round % 2, 2);
            LineRules x = Check.with(model.text());
            int[] orphan = model.orphanByRows(6);
            if (orphan != null) {
                Check.due("orphan of " + model.text(), x.orphan(), orphan.length);
                for (int i = 0; i < orphan.length; i++) {
                    Check.due("orphanAt of " + model.text(), x.orphanAt(i), orphan[i]);
                }
            } else {
                Check.isTrue("orphan of " + model.text(), x.orphan() == 0 || x.orphan() > 6);
            }
        }
    }

    private static void compareOrphan(LineRules x, Model model) {
        Model.Search search = model.orphanBySets(600);
        boolean full = search.setsMet >= 500;
        if (full && x.surjective() == 1) {
            Check.isTrue("given up or none", search.orphan == null);
            Check.due("orphan of one that misses nothing", x.orphan(), 0);
            return;
        }
        int due = full ? -2 : search.orphan == null ? 0 : search.orphan.size();
        Check.due("surjective " + model.text(), x.surjective(), due == 0 ? 1 : 0);
        Check.due("orphan " + model.text(), x.orphan(), due);
        for (int i = 0; i < due; i++) {
            Check.due("orphanAt(" + i + ") " + model.text(), x.orphanAt(i), search.orphan.get(i));
        }
        Check.due("orphanAt(-1) " + model.text(), x.orphanAt(-1), -1);
        Check.due("orphanAt behind " + model.text(), x.orphanAt(Math.max(0, due)), -1);
    }

    private static void byChance() {
        Random dice = new Random(5);
        int[][] shapes = {{2, 2}, {3, 2}, {4, 2}, {2, 4}, {3, 3}};
        for (int round = 0; round < 600; round++) {
            int[] shape = shapes[round % shapes.length];
            Model model = round % 3 == 0 ? Model.permutive(dice, shape[0], shape[1]) : Model.random(dice, shape[0], shape[1]);
            if (round % 5 == 0) {
                model.table[dice.nextInt(model.table.length)] = dice.nextInt(shape[0]);
            }
            LineRules x = Check.with(model.text());
            compareOrphan(x, model);
            Check.due("injective " + model.text(), x.injective(), model.injective() ? 1 : 0);
        }
    }

    /** Rules too wide for a table, by expressions. */
    private static void wideOnes() {
        Random dice = new Random(6);
        int[][] shapes = {{4, 3}, {3, 4}, {4, 4}};
        for (int round = 0; round < 150; round++) {
            int[] shape = shapes[round % shapes.length];
            String text = Texts.expression(dice, shape[0], shape[1]);
            LineRules x = Check.with(text);
            compareOrphan(x, Texts.modelOf(x, shape[0], shape[1]));
        }
        int[][] due = {{1, 0}, {1, 1}, {1, 0}, {0, 0}, {1, 1}, {1, 0}};
        String[] texts = {"44Ea+b+c+d", "44E!c", "34Ea+b*c*d", "44E2*a", "44Ea", "44Ed+a*b*c"};
        for (int i = 0; i < texts.length; i++) {
            LineRules x = Check.with(texts[i]);
            Check.due("surjective " + texts[i], x.surjective(), due[i][0]);
            Check.due("injective " + texts[i], x.injective(), due[i][1]);
        }
    }
}
