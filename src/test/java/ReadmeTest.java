import java.lang.reflect.Method;
import java.lang.reflect.Modifier;
import java.nio.file.Files;
import java.nio.file.Path;
import java.util.Set;
import java.util.TreeSet;
import java.util.regex.Matcher;
import java.util.regex.Pattern;

/** README.md shows each call once at least, and what stands behind a call is what it answers. */
public final class ReadmeTest extends Checks {
    private static final Pattern MAKING = Pattern.compile("CutBlocks x = new CutBlocks\\(\\);");
    private static final Pattern CALL = Pattern.compile("x\\.(\\w+)\\(([-0-9, ]*)\\); +// (-?[0-9]+)\\b.*");

    private static Method methodOf(String name) {
        for (Method m : CutBlocks.class.getDeclaredMethods()) {
            if (m.getName().equals(name) && Modifier.isPublic(m.getModifiers())) {
                return m;
            }
        }
        throw new IllegalArgumentException("no call " + name);
    }

    private static long answer(CutBlocks x, String name, String arguments) throws Exception {
        String[] words = arguments.split(", *");
        Object[] numbers = new Object[words.length];
        for (int i = 0; i < words.length; i++) {
            numbers[i] = Integer.valueOf(words[i].trim());
        }
        return ((Number) methodOf(name).invoke(x, numbers)).longValue();
    }

    private static Set<String> publicCalls() {
        Set<String> names = new TreeSet<>();
        for (Method m : CutBlocks.class.getDeclaredMethods()) {
            if (Modifier.isPublic(m.getModifiers())) {
                names.add(m.getName());
            }
        }
        return names;
    }

    public static void main(String[] args) throws Exception {
        Set<String> missing = publicCalls();
        CutBlocks x = null;
        boolean inExample = false;
        for (String line : Files.readAllLines(Path.of("README.md"))) {
            if (line.startsWith("```")) {
                inExample = line.equals("```java");
                continue;
            }
            if (!inExample || line.isBlank()) {
                continue;
            }
            Matcher call = CALL.matcher(line);
            if (MAKING.matcher(line).matches()) {
                x = new CutBlocks();
            } else if (call.matches()) {
                at("README.md");
                due(line, answer(x, call.group(1), call.group(2)), Long.parseLong(call.group(3)));
                missing.remove(call.group(1));
            } else {
                at("README.md: neither a call nor its answer: " + line);
                due("lines", 1, 0);
            }
        }
        at("README.md: calls that it does not show: " + missing);
        due("there are", missing.size(), 0);
        end("README.md is as the class answers");
    }
}
