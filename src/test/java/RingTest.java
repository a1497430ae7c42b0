import java.util.Random;

/** Promises 5 to 9 for rules and rings by chance: set, get, step and population. */
public final class RingTest {
    public static void main(String[] args) {
        Random dice = new Random(3);
        for (int round = 0; round < 400; round++) {
            int states = 2 + dice.nextInt(3);
            int width = 1 + dice.nextInt(4);
            String text = Texts.expression(dice, states, width);
            Model model = Texts.modelOf(Check.with(text), states, width);
            run(dice, text, model, 1 + dice.nextInt(round % 2 == 0 ? 5 : 64));
        }
        Check.end();
    }

    private static void run(Random dice, String text, Model model, int cells) {
        LineRules x = Check.with(text);
        int[] ring = new int[cells];
        for (int i = 0; i < cells; i++) {
            ring[i] = dice.nextInt(model.states);
        }
        Check.fill(x, ring);
        for (int most : new int[] {4, 4, 201}) {
            int steps = dice.nextInt(most);
            int[] old = ring;
            for (int i = 0; i < steps; i++) {
                ring = model.stepRing(ring);
            }
            int changed = 0;
            int[] having = new int[model.states];
            for (int i = 0; i < cells; i++) {
                changed += ring[i] != old[i] ? 1 : 0;
                having[ring[i]]++;
            }
            Check.due(text + " step(" + steps + ")", x.step(steps), changed);
            Check.cells(text, x, ring);
            for (int s = 0; s < model.states; s++) {
                Check.due(text + " population(" + s + ")", x.population(s), having[s]);
            }
        }
    }
}
