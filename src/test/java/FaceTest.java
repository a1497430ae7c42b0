import java.lang.reflect.Constructor;
import java.lang.reflect.Field;
import java.lang.reflect.Method;
import java.lang.reflect.Modifier;
import java.util.Arrays;
import java.util.TreeSet;

/** The public face, and promise 1: a new object has no rule and no text. */
public final class FaceTest {
    public static void main(String[] args) throws Exception {
        face();
        newObject();
        withoutRule();
        Check.end();
    }

    private static void face() throws Exception {
        Check.due("NONE", LineRules.NONE, -1);
        Check.due("FULL", LineRules.FULL, -2);
        Check.isTrue("final", Modifier.isFinal(LineRules.class.getModifiers()));
        TreeSet<String> shown = new TreeSet<>();
        for (Method method : LineRules.class.getDeclaredMethods()) {
            if (!Modifier.isPrivate(method.getModifiers())) {
                shown.add(method.getReturnType() + " " + method.getName() + Arrays.toString(method.getParameterTypes()));
            }
        }
        TreeSet<String> due = new TreeSet<>(Arrays.asList("int load[int]", "int rule[]", "int next[int]", "int ring[int]",
                "int set[int, int]", "int get[int]", "int step[int]", "int population[int]", "int surjective[]",
                "int injective[]", "int inverse[int]", "int undo[int]", "int conserved[]", "int weight[int, int]",
                "int orphan[]", "int orphanAt[int]", "int before[]", "int beforeAt[int]", "long ways[]"));
        Check.isTrue("the methods " + shown, shown.equals(due));
        int fields = 0;
        for (Field field : LineRules.class.getDeclaredFields()) {
            fields += Modifier.isPrivate(field.getModifiers()) ? 0 : 1;
        }
        Check.due("fields that show", fields, 2);
        Constructor<?>[] constructors = LineRules.class.getDeclaredConstructors();
        Check.due("constructors", constructors.length, 1);
        Check.isTrue("public constructor", Modifier.isPublic(constructors[0].getModifiers()));
    }

    private static void newObject() {
        LineRules x = new LineRules();
        Check.due("rule() of no text", x.rule(), -10);
        Check.due("one cell", x.get(0), 0);
        Check.due("no second cell", x.get(1), -1);
        Check.due("load", x.load('2'), 1);
        LineRules y = new LineRules();
        Check.due("objects are apart", y.load('2'), 1);
        Check.due("ring", x.ring(3), 1);
        Check.due("rings are apart", y.ring(4), 1);
    }

    /** Also behind a fault, and when the argument is wrong besides. */
    private static void withoutRule() {
        LineRules x = new LineRules();
        for (int time = 0; time < 2; time++) {
            for (int n = -1; n < 3; n++) {
                Check.due("next", x.next(n), -1);
                Check.due("set", x.set(n, 0), -1);
                Check.due("set", x.set(0, n), -1);
                Check.due("step", x.step(n), -1);
                Check.due("population", x.population(n), -1);
                Check.due("inverse", x.inverse(n), -1);
                Check.due("undo", x.undo(n), -1);
                Check.due("weight", x.weight(n, 0), -1);
                Check.due("weight", x.weight(0, n), -1);
                Check.due("orphanAt", x.orphanAt(n), -1);
                Check.due("beforeAt", x.beforeAt(n), -1);
            }
            Check.due("surjective", x.surjective(), -1);
            Check.due("injective", x.injective(), -1);
            Check.due("conserved", x.conserved(), -1);
            Check.due("orphan", x.orphan(), -1);
            Check.due("before", x.before(), -1);
            Check.due("ways", x.ways(), -1L);
            Check.due("a fault", Check.read(x, "22Ta"), -13);
        }
        Check.due("ring without a rule", x.ring(64), 1);
        Check.due("get without a rule", x.get(63), 0);
        Check.due("ring without a rule", x.ring(65), -1);
        Check.due("get without a rule", x.get(64), -1);
        Check.due("and then a rule", Check.read(x, "21T01"), 2);
        Check.due("the ring is kept", x.population(0), 64);
    }
}
