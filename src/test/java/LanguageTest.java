import java.lang.reflect.Field;
import java.lang.reflect.Method;
import java.lang.reflect.Modifier;
import java.nio.file.Files;
import java.nio.file.Path;
import java.util.ArrayList;
import java.util.List;
import java.util.Set;
import java.util.TreeSet;
import java.util.regex.Matcher;
import java.util.regex.Pattern;

/** The rules of LANGUAGE.md that can be seen in the words of the source: they bind that file alone. */
public final class LanguageTest extends Checks {
    private static final Path SOURCE = Path.of("src/main/java/CutBlocks.java");
    private static final String[] RULED_OUT = {"throw", "throws", "try", "catch", "synchronized", "assert", "package",
        "volatile", "native", "double", "float", "Object", "Thread", "Random", "StringBuilder", "ArrayList", "List",
        "hashCode", "equals", "toString", "Integer", "Long", "String", "goto", "import static", "->", "::", "\"", "@"};
    private static final Set<String> LIBRARY = Set.of("Math.min", "Math.max", "System.arraycopy", "Arrays.fill");
    private static final int MOST_LINES = 60;
    private static final int MOST_CLASSES = 12;
    private static final int MOST_FIELDS = 20;
    private static final int MOST_PARAMETERS = 7;
    private static final int WRITTEN_CONSTRUCTORS = 4;

    private static String withoutComments(String text) {
        return text.replaceAll("(?s)/\\*.*?\\*/", "").replaceAll("//[^\n]*", "");
    }

    private static List<String> all(String pattern, String text) {
        List<String> found = new ArrayList<>();
        Matcher m = Pattern.compile(pattern).matcher(text);
        while (m.find()) {
            found.add(m.group());
        }
        return found;
    }

    private static void none(String rule, List<String> found) {
        due(rule + ": " + found + ": so many", found.size(), 0);
    }

    private static void words(String code) {
        for (String word : RULED_OUT) {
            String edge = Character.isLetter(word.charAt(0)) ? "\\b" : "";
            none("ruled out", all(edge + Pattern.quote(word) + edge, code));
        }
    }

    private static void library(String code) {
        List<String> imports = all("(?m)^import [^;]*;", code);
        due("imports " + imports, imports.equals(List.of("import java.util.Arrays;")) ? 1 : 0, 1);
        for (String use : all("\\b(Math|System|Arrays)\\.\\w+", code)) {
            due(use + " is of the library that is used", LIBRARY.contains(use) ? 1 : 0, 1);
        }
        due("names with java.", all("\\bjava\\w*\\.", code).size(), 1);
    }

    private static void classes(String code) {
        none("a static block", all("static\\s*\\{", code));
        Class<?>[] inside = CutBlocks.class.getDeclaredClasses();
        due("as many classes as there are words for them", all("\\bclass \\w+", code).size(), inside.length + 1);
        due("classes are some twelve", inside.length < MOST_CLASSES ? 1 : 0, 1);
        fields(CutBlocks.class);
        for (Class<?> one : inside) {
            boolean isPublic = Modifier.isPublic(one.getModifiers()) || Modifier.isProtected(one.getModifiers());
            due(one + " is static, and not public", Modifier.isStatic(one.getModifiers()) && !isPublic ? 1 : 0, 1);
            fields(one);
        }
    }

    private static void fields(Class<?> of) {
        int ofObjects = 0;
        for (Field field : of.getDeclaredFields()) {
            if (Modifier.isStatic(field.getModifiers())) {
                boolean constant = Modifier.isFinal(field.getModifiers()) && field.getType().isPrimitive();
                due(field + " is a constant", constant ? 1 : 0, 1);
            } else {
                ofObjects++;
            }
        }
        due(of + " has some twenty fields", ofObjects <= MOST_FIELDS ? 1 : 0, 1);
    }

    /** Method headings end with ") {" behind a type and a name; their ends have the same indent. */
    private static void methods(String code) {
        String[] lines = code.split("\n");
        int found = 0;
        Pattern heading = Pattern.compile("( +)(?:private |public |static )*(?:\\w+(?:\\[\\])? )?(\\w+)\\((.*)\\) \\{");
        for (int i = 0; i < lines.length; i++) {
            Matcher m = heading.matcher(lines[i]);
            if (!m.matches() || Set.of("if", "for", "while", "switch").contains(m.group(2))) {
                continue;
            }
            found++;
            int end = i;
            while (end < lines.length && !lines[end].equals(m.group(1) + "}")) {
                end++;
            }
            due(m.group(2) + " has lines: " + (end - i), end - i <= MOST_LINES ? 1 : 0, 1);
            due(m.group(2) + " has parameters: " + m.group(3), m.group(3).split(",").length <= MOST_PARAMETERS ? 1 : 0, 1);
        }
        due("methods and constructors", found, namedMethods());
    }

    /** How many there are; none that is not public has the name of a public one. */
    private static int namedMethods() {
        List<Class<?>> classes = new ArrayList<>(List.of(CutBlocks.class.getDeclaredClasses()));
        classes.add(CutBlocks.class);
        Set<String> publics = new TreeSet<>();
        List<String> others = new ArrayList<>();
        int written = 0;
        for (Class<?> one : classes) {
            for (Method m : one.getDeclaredMethods()) {
                written++;
                boolean ofTheFace = one == CutBlocks.class && Modifier.isPublic(m.getModifiers());
                (ofTheFace ? publics : others).add(m.getName());
            }
        }
        others.retainAll(publics);
        none("private ones with the name of a public one", others);
        return written + WRITTEN_CONSTRUCTORS;
    }

    public static void main(String[] args) throws Exception {
        String code = withoutComments(Files.readString(SOURCE));
        at("LANGUAGE.md");
        words(code);
        library(code);
        classes(code);
        methods(code);
        end("the source keeps to the rules that can be seen in its words");
    }
}
