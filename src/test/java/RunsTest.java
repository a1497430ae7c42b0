import java.util.List;
import java.util.Random;

/** Long runs of calls by chance on one object, so that what one call leaves shows in the others. */
public final class RunsTest {
    private final Random dice;
    private final LineRules x = new LineRules();
    private Model model = null;
    private int[] ring = new int[1];

    private RunsTest(long seed) {
        dice = new Random(seed);
    }

    public static void main(String[] args) {
        for (int seed = 0; seed < 450; seed++) {
            RunsTest run = new RunsTest(seed);
            for (int i = 0; i < 20; i++) {
                run.act();
                run.ask();
                run.ask();
            }
        }
        Check.end();
    }

    private void act() {
        switch (dice.nextInt(8)) {
            case 0:
                newRule();
                break;
            case 1:
                Check.due("a fault", Check.read(x, "32Ea=b="), -16);
                break;
            case 2:
                newRing();
                break;
            case 3:
                steps();
                break;
            default:
                setCell();
        }
    }

    private void newRule() {
        int states = 2 + dice.nextInt(3);
        int width = 1 + dice.nextInt(states == 4 ? 2 : 3);
        model = dice.nextBoolean() ? Model.random(dice, states, width) : Model.permutive(dice, states, width);
        Check.due("rule", Check.read(x, model.text()), states);
        ring = new int[ring.length];
    }

    private void newRing() {
        int cells = dice.nextInt(7);
        Check.due("ring(" + cells + ")", x.ring(cells), cells == 0 ? -1 : ring.length);
        ring = cells == 0 ? ring : new int[cells];
    }

    private void steps() {
        int steps = dice.nextInt(4) - 1;
        int[] old = ring;
        for (int i = 0; model != null && i < steps; i++) {
            ring = model.stepRing(ring);
        }
        int changed = 0;
        for (int i = 0; i < ring.length; i++) {
            changed += ring[i] != old[i] ? 1 : 0;
        }
        Check.due("step(" + steps + ")", x.step(steps), model == null || steps < 0 ? -1 : changed);
    }

    private void setCell() {
        int i = dice.nextInt(8) - 1;
        int s = dice.nextInt(5) - 1;
        boolean there = model != null && i >= 0 && i < ring.length && s >= 0 && s < model.states;
        Check.due("set(" + i + ", " + s + ")", x.set(i, s), there ? ring[i] : -1);
        if (there) {
            ring[i] = s;
        }
    }

    private void ask() {
        int n = dice.nextInt(8) - 1;
        boolean cell = n >= 0 && n < ring.length;
        Check.due("get(" + n + ")", x.get(n), cell ? ring[n] : -1);
        if (model == null) {
            Check.due("no rule", x.ways(), -1);
            return;
        }
        if (dice.nextInt(3) > 0) {
            askRing(n, cell);
        } else {
            askRule(n);
        }
    }

    private void askRing(int n, boolean cell) {
        List<int[]> before = model.ringsBefore(ring);
        Check.due("beforeAt(" + n + ")", x.beforeAt(n), cell && !before.isEmpty() ? before.get(0)[n] : -1);
        Check.due("ways()", x.ways(), before.size());
        Check.due("before()", x.before(), before.isEmpty() ? 0 : 1);
    }

    private void askRule(int n) {
        Check.due("next(" + n + ")", x.next(n), n >= 0 && n < model.table.length ? model.table[n] : -1);
        Check.due("injective()", x.injective(), model.injective() ? 1 : 0);
        Model.Search search = model.orphanBySets(600);
        if (search.setsMet < 500) {
            int length = search.orphan == null ? 0 : search.orphan.size();
            Check.due("orphanAt(" + n + ")", x.orphanAt(n), n >= 0 && n < length ? search.orphan.get(n) : -1);
            Check.due("orphan()", x.orphan(), length);
            Check.due("surjective()", x.surjective(), length == 0 ? 1 : 0);
        }
        int[] inverse = model.injective() ? model.inverse() : null;
        int told = inverse == null ? 0 : inverse.length - 2;
        Check.due("undo(" + n + ")", x.undo(n), n >= 0 && n < told ? inverse[n + 2] : -1);
        Check.due("inverse(0)", x.inverse(0), inverse == null ? 0 : inverse[0]);
        Check.due("inverse(1)", x.inverse(1), inverse == null ? 0 : inverse[1]);
    }
}
