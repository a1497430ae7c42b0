/** What an object answers to all that asks and changes nothing, to be compared with another's answers. */
final class Answers {
    /** All edges of the small rules, and some of the great; few, as an object is used for 512 calls. */
    private static final int[] NUMBERS = {-1, 0, 1, 2, 3, 4, 5, 6, 7, 8, 9, 15, 16, 26, 27, 63, 64, 255, 256};
    private static final int MOST = 200;

    private final long[] kept = new long[MOST];
    private final LineRules x;
    private int count = 0;

    Answers(LineRules x) {
        this.x = x;
        askRule();
        askRing();
    }

    void compare(String what, LineRules y) {
        Answers other = new Answers(y);
        Check.due(what + ": how many answers", other.count, count);
        for (int i = 0; i < count; i++) {
            Check.due(what + ": answer " + i, other.kept[i], kept[i]);
        }
    }

    private void keep(long answer) {
        kept[count] = answer;
        count++;
    }

    private void askRule() {
        for (int n : NUMBERS) {
            keep(x.next(n));
            keep(x.undo(n));
            keep(x.orphanAt(n));
        }
        keep(x.surjective());
        keep(x.injective());
        keep(x.inverse(0));
        keep(x.inverse(1));
        keep(x.conserved());
        for (int k = 0; k <= 3; k++) {
            for (int s = 0; s <= 4; s++) {
                keep(x.weight(k, s));
            }
        }
        keep(x.orphan());
    }

    private void askRing() {
        for (int n : NUMBERS) {
            keep(x.get(n));
            keep(x.beforeAt(n));
        }
        for (int s = 0; s <= 4; s++) {
            keep(x.population(s));
        }
        keep(x.before());
        keep(x.ways());
    }
}
