import java.lang.reflect.Constructor;
import java.lang.reflect.Field;
import java.lang.reflect.Method;
import java.lang.reflect.Modifier;
import java.nio.file.Files;
import java.nio.file.Path;
import java.util.ArrayList;
import java.util.List;
import java.util.Set;
import java.util.TreeSet;
import java.util.regex.Matcher;
import java.util.regex.Pattern;

/**
 * The class has the document's face, and no other member that is not private; ahead of its calls stand
 * the headings that the document names.
 */
public final class FaceTest {
    private static final List<String> DUE = List.of(
            "public static final int BAD = -1",
            "public static final int FULL = -2",
            "public static final long NOTHING = -1",
            "public ()",
            "public int seed(int)",
            "public int rule(int,int,int,int,int,int)",
            "public int add(int,int)",
            "public int fill(int,int,int,int)",
            "public int insert(int,int,int)",
            "public int remove(int,int,int)",
            "public int copy(int,int)",
            "public int size(int)",
            "public int byteAt(int,int)",
            "public int blocks(int)",
            "public int block(int,int,int)",
            "public long digest(int,int,int)",
            "public long hash(int,int)",
            "public int alike(int,int,int)",
            "public int keep(int)",
            "public int drop(int)",
            "public int restore(int,int)",
            "public int told(int,int)",
            "public int uses(int,int)",
            "public int kept(int)");

    /** Calls and headings in the order of the document. */
    private static final String ORDER = "CutBlocks seed rule"
            + " -texts add fill insert remove copy size byteAt"
            + " -blocks blocks block digest hash alike"
            + " -kept keep drop restore told uses kept";

    public static void main(String[] args) throws Exception {
        Set<String> got = new TreeSet<>();
        for (Field f : CutBlocks.class.getDeclaredFields()) {
            if (!Modifier.isPrivate(f.getModifiers())) {
                got.add(Modifier.toString(f.getModifiers()) + " " + f.getType() + " " + f.getName() + " = " + f.get(null));
            }
        }
        for (Constructor<?> c : CutBlocks.class.getDeclaredConstructors()) {
            got.add(Modifier.toString(c.getModifiers()) + " " + types(c.getParameterTypes()));
        }
        for (Method m : CutBlocks.class.getDeclaredMethods()) {
            if (!Modifier.isPrivate(m.getModifiers())) {
                got.add(Modifier.toString(m.getModifiers()) + " " + m.getReturnType() + " " + m.getName() + types(m.getParameterTypes()));
            }
        }
        Set<String> due = new TreeSet<>(DUE);
        boolean right = due.equals(got) && CutBlocks.class.getModifiers() == (Modifier.PUBLIC | Modifier.FINAL);
        if (!right) {
            System.out.println("the face is\n" + got + "\ndue is, of a public final class,\n" + due);
            System.exit(1);
        }
        String order = orderInTheSource();
        if (!order.equals(ORDER)) {
            System.out.println("the order of the face is\n" + order + "\ndue is\n" + ORDER);
            System.exit(1);
        }
        System.out.println("the face is as due");
    }

    private static String orderInTheSource() throws Exception {
        Pattern row = Pattern.compile("    (?:public (?:int |long )?(\\w+)\\(.*|// ---(- \\w+))");
        List<String> found = new ArrayList<>();
        for (String line : Files.readAllLines(Path.of("src/main/java/CutBlocks.java"))) {
            Matcher m = row.matcher(line);
            if (m.matches()) {
                found.add(m.group(1) != null ? m.group(1) : m.group(2).replace(" ", ""));
            }
        }
        return String.join(" ", found);
    }

    private static String types(Class<?>[] types) {
        List<String> names = new ArrayList<>();
        for (Class<?> type : types) {
            names.add(type.getName());
        }
        return "(" + String.join(",", names) + ")";
    }
}
