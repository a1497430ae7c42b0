import java.lang.reflect.Constructor;
import java.lang.reflect.Field;
import java.lang.reflect.Method;
import java.lang.reflect.Modifier;
import java.util.Arrays;
import java.util.TreeSet;

/** The public face: the constants, the constructor and the methods of the document, and no others. */
public final class FaceTest {
    public static void main(String[] args) throws Exception {
        face();
        Check.end();
    }

    private static void face() throws Exception {
        Check.due("NONE", LineRules.NONE, -1);
        Check.due("FULL", LineRules.FULL, -2);
        Check.isTrue("final", Modifier.isFinal(LineRules.class.getModifiers()));
        TreeSet<String> shown = new TreeSet<>();
        for (Method method : LineRules.class.getDeclaredMethods()) {
            if (!Modifier.isPrivate(method.getModifiers())) {
                shown.add(method.getReturnType() + " " + method.getName() + Arrays.toString(method.getParameterTypes()));
            }
        }
        TreeSet<String> due = new TreeSet<>(Arrays.asList("int load[int]", "int rule[]", "int next[int]", "int ring[int]",
                "int set[int, int]", "int get[int]", "int step[int]", "int population[int]", "int surjective[]",
                "int injective[]", "int inverse[int]", "int undo[int]", "int conserved[]", "int weight[int, int]",
                "int orphan[]", "int orphanAt[int]", "int before[]", "int beforeAt[int]", "long ways[]"));
        Check.isTrue("the methods " + shown, shown.equals(due));
        int fields = 0;
        for (Field field : LineRules.class.getDeclaredFields()) {
            fields += Modifier.isPrivate(field.getModifiers()) ? 0 : 1;
        }
        Check.due("fields that show", fields, 2);
        Constructor<?>[] constructors = LineRules.class.getDeclaredConstructors();
        Check.due("constructors", constructors.length, 1);
        Check.isTrue("public constructor", Modifier.isPublic(constructors[0].getModifiers()));
    }
}
