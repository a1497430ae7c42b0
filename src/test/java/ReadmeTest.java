import java.lang.reflect.Method;
import java.lang.reflect.Modifier;
import java.nio.file.Files;
import java.nio.file.Paths;
import java.util.regex.Matcher;
import java.util.regex.Pattern;

/** What README.md tells holds: its example, the rules that it writes, and it names all calls. */
public final class ReadmeTest {
    private static final Pattern TEXT = Pattern.compile("String text = \"(.*)\";.*");
    private static final Pattern CALL = Pattern.compile("x\\.(\\w+)\\(([-0-9, ]*)\\); +// (-?[0-9]+): .*");
    private static final Pattern RULE = Pattern.compile("`([2-4][1-4][TSE][^`]+)`");

    public static void main(String[] args) throws Exception {
        String readme = Files.readString(Paths.get("README.md"));
        example(readme);
        rules(readme);
        calls(readme);
        Check.end();
    }

    private static void example(String readme) throws Exception {
        String fence = "```java\n";
        int start = readme.indexOf(fence) + fence.length();
        LineRules x = new LineRules();
        int answers = 0;
        for (String line : readme.substring(start, readme.indexOf("```", start)).split("\n")) {
            Matcher text = TEXT.matcher(line);
            if (text.matches()) {
                Check.load(x, text.group(1));
            }
            if (line.startsWith("x.")) {
                Matcher call = CALL.matcher(line);
                Check.isTrue("an answer is told: " + line, call.matches());
                Check.due(line, answer(x, call.group(1), call.group(2)), Long.parseLong(call.group(3)));
                answers++;
            }
        }
        Check.due("calls of the example but load", answers, 18);
    }

    private static long answer(LineRules x, String name, String list) throws Exception {
        String[] parts = list.isEmpty() ? new String[0] : list.split(", ");
        Class<?>[] types = new Class<?>[parts.length];
        Object[] arguments = new Object[parts.length];
        for (int i = 0; i < parts.length; i++) {
            types[i] = int.class;
            arguments[i] = Integer.parseInt(parts[i]);
        }
        return ((Number) LineRules.class.getMethod(name, types).invoke(x, arguments)).longValue();
    }

    private static void rules(String readme) {
        Matcher rule = RULE.matcher(readme);
        int found = 0;
        while (rule.find()) {
            Check.with(rule.group(1));
            found++;
        }
        Check.due("rules written in the table", found, 3);
    }

    private static void calls(String readme) {
        for (Method method : LineRules.class.getDeclaredMethods()) {
            if (Modifier.isPublic(method.getModifiers())) {
                Check.isTrue(method.getName() + " stands in the table", readme.contains("`" + method.getName() + "("));
            }
        }
    }
}
