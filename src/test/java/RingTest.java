import java.util.Random;

/** Promises 5 to 9: ring, set, get, step and population. */
public final class RingTest {
    public static void main(String[] args) {
        ring();
        setAndGet();
        stepEdges();
        shortRings();
        population();
        manySteps();
        Check.end();
    }

    private static void ring() {
        LineRules x = Check.with("22Ea");
        Check.due("ring(64)", x.ring(64), 1);
        Check.due("ring(1)", x.ring(1), 64);
        for (int wrong : new int[] {0, -1, 65, Integer.MIN_VALUE, Integer.MAX_VALUE}) {
            Check.due("ring(" + wrong + ")", x.ring(wrong), -1);
        }
        Check.due("a wrong one changes nothing", x.ring(3), 1);
        x.set(2, 1);
        Check.due("a wrong one clears nothing", x.ring(65), -1);
        Check.cells("a wrong one clears nothing", x, 0, 0, 1);
        Check.due("the same again", x.ring(3), 3);
        Check.cells("all 0", x, 0, 0, 0);
        x.set(2, 1);
        x.ring(1);
        x.ring(3);
        Check.cells("all 0 behind a smaller one", x, 0, 0, 0);
    }

    private static void setAndGet() {
        LineRules x = Check.with("31Ea");
        x.ring(2);
        Check.due("set(1, 2)", x.set(1, 2), 0);
        Check.due("set(1, 1)", x.set(1, 1), 2);
        Check.due("set(1, 1)", x.set(1, 1), 1);
        int[][] wrong = {{2, 0}, {-1, 0}, {0, 3}, {0, -1}, {64, 0}, {Integer.MIN_VALUE, 0}, {0, Integer.MAX_VALUE}};
        for (int[] pair : wrong) {
            Check.due("set(" + pair[0] + ", " + pair[1] + ")", x.set(pair[0], pair[1]), -1);
        }
        Check.cells("wrong ones change nothing", x, 0, 1);
        for (int i : new int[] {-1, 2, 64, Integer.MIN_VALUE, Integer.MAX_VALUE}) {
            Check.due("get(" + i + ")", x.get(i), -1);
        }
    }

    private static void stepEdges() {
        LineRules x = Check.with("21E!a");
        x.ring(5);
        for (int n : new int[] {-1, 201, Integer.MIN_VALUE, Integer.MAX_VALUE}) {
            Check.due("step(" + n + ")", x.step(n), -1);
        }
        Check.due("step(0)", x.step(0), 0);
        Check.due("step(1)", x.step(1), 5);
        Check.due("step(2) comes back", x.step(2), 0);
        Check.due("step(200)", x.step(200), 0);
        Check.due("step(199)", x.step(199), 5);
        Check.cells("behind them all", x, 0, 0, 0, 0, 0);
        LineRules y = Check.with("43Ea");
        Check.fill(y, 1, 2, 3, 0);
        Check.due("moved to the right", y.step(1), 4);
        Check.cells("moved to the right", y, 0, 1, 2, 3);
        LineRules z = Check.with("44Ea");
        Check.fill(z, 1, 2, 3, 0);
        z.step(1);
        Check.cells("four wide, one to the left", z, 0, 1, 2, 3);
        LineRules w = Check.with("42Ea");
        Check.fill(w, 1, 2, 3, 0);
        Check.due("two wide, none to the left", w.step(9), 0);
        LineRules v = Check.with("42Eb");
        Check.fill(v, 1, 2, 3, 0);
        v.step(1);
        Check.cells("moved to the left", v, 2, 3, 0, 1);
    }

    private static void shortRings() {
        LineRules x = Check.with("44Ea+b+c+d");
        Check.fill(x, 1);
        x.step(1);
        Check.cells("one cell four times", x, 0);
        LineRules y = Check.with("34Ea+b-d");
        Check.fill(y, 2, 1);
        y.step(1);
        // Cell 0 sees the cells 1, 0, 1, 0 and cell 1 sees 0, 1, 0, 1.
        Check.cells("two cells twice", y, 1, 2);
    }

    private static void population() {
        LineRules x = Check.with("41Ea");
        Check.due("one cell", x.population(0), 1);
        Check.fill(x, 3, 0, 3, 1, 3);
        Check.due("of 0", x.population(0), 1);
        Check.due("of 1", x.population(1), 1);
        Check.due("of 2", x.population(2), 0);
        Check.due("of 3", x.population(3), 3);
        for (int s : new int[] {-1, 4, Integer.MIN_VALUE, Integer.MAX_VALUE}) {
            Check.due("of " + s, x.population(s), -1);
        }
        x.ring(64);
        Check.due("all of a great ring", x.population(0), 64);
        LineRules y = Check.with("21Ea");
        Check.due("no such state", y.population(2), -1);
    }

    private static void manySteps() {
        Random dice = new Random(3);
        for (int round = 0; round < 400; round++) {
            int states = 2 + dice.nextInt(3);
            int width = 1 + dice.nextInt(states == 2 ? 4 : states == 3 ? 3 : 2);
            Model model = Model.random(dice, states, width);
            LineRules x = Check.with(model.text());
            int[] ring = new int[1 + dice.nextInt(round % 2 == 0 ? 5 : 64)];
            for (int i = 0; i < ring.length; i++) {
                ring[i] = dice.nextInt(states);
            }
            Check.fill(x, ring);
            for (int time = 0; time < 3; time++) {
                int steps = dice.nextInt(4);
                int[] old = ring;
                for (int i = 0; i < steps; i++) {
                    ring = model.stepRing(ring);
                }
                int changed = 0;
                for (int i = 0; i < ring.length; i++) {
                    changed += ring[i] != old[i] ? 1 : 0;
                }
                Check.due(model.text() + " step(" + steps + ")", x.step(steps), changed);
                Check.cells(model.text(), x, ring);
                int[] having = new int[states];
                for (int cell : ring) {
                    having[cell]++;
                }
                for (int s = 0; s < states; s++) {
                    Check.due(model.text() + " population(" + s + ")", x.population(s), having[s]);
                }
            }
        }
    }
}
