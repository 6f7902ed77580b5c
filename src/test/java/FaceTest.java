import java.lang.management.ManagementFactory;
import java.lang.reflect.Constructor;
import java.lang.reflect.Field;
import java.lang.reflect.Method;
import java.lang.reflect.Modifier;
import java.nio.file.Files;
import java.nio.file.Path;
import java.util.ArrayList;
import java.util.List;
import java.util.Set;
import java.util.TreeSet;
import java.util.regex.Matcher;
import java.util.regex.Pattern;

/** The public face as the document gives it, the rules of LANGUAGE.md on form, and that calls make no objects. */
public final class FaceTest {
    private static final Path SOURCE = Path.of("src/main/java/FeltGlass.java");
    private static final int MOST_PARAMETERS = 7, MOST_LINES = 60, MOST_CLASSES = 12, MOST_FIELDS = 20;
    private static final Pattern RULED_OUT = Pattern.compile(
        "\\b(throw|throws|try|catch|finally|synchronized|assert|protected|native|volatile|transient|double|float)\\b"
        + "|->|::|\\w+Exact\\b|\\bSystem\\.(?!arraycopy)|\\bimport (?!java\\.util\\.Arrays;)|[^\\x00-\\x7f]");

    public static void main(String[] args) throws Exception {
        face();
        constants();
        privateNames();
        nestedClasses();
        methods();
        words();
        noObjects();
        Checks.end();
    }

    /** The methods of the document's face, as reflection writes them. */
    private static Set<String> promised() {
        Set<String> face = new TreeSet<>();
        Pattern method = Pattern.compile(" *public (int|long) (\\w+)\\((.*)\\);");
        for (String line : Document.face()) {
            Matcher found = method.matcher(line);
            if (found.matches()) {
                String types = found.group(3).replaceAll("(\\w+) \\w+", "$1").replace(" ", "");
                face.add(found.group(1) + " " + found.group(2) + "(" + types + ")");
            }
        }
        return face;
    }

    private static Set<String> promisedNames() {
        Set<String> names = new TreeSet<>();
        for (String signature : promised()) {
            names.add(signature.substring(signature.indexOf(' ') + 1, signature.indexOf('(')));
        }
        return names;
    }

    private static void face() {
        Set<String> open = new TreeSet<>();
        for (Method method : FeltGlass.class.getDeclaredMethods()) {
            StringBuilder text = new StringBuilder(method.getReturnType() + " " + method.getName() + "(");
            for (Class<?> type : method.getParameterTypes()) {
                if (text.charAt(text.length() - 1) != '(') text.append(',');
                text.append(type);
            }
            boolean seen = Modifier.isPublic(method.getModifiers()) && !Modifier.isStatic(method.getModifiers());
            if (seen) open.add(text + ")");
            else if (!Modifier.isPrivate(method.getModifiers())) open.add("stray " + text);
        }
        Checks.due("methods of the document's face", promised().size(), 22);
        Checks.holds("face " + open + " is " + promised(), open.equals(promised()));
        Constructor<?>[] makers = FeltGlass.class.getDeclaredConstructors();
        Checks.due("constructors", makers.length, 1);
        Checks.due("public constructor", makers[0].getModifiers(), Modifier.PUBLIC);
        Checks.due("its parameters", makers[0].getParameterCount(), 0);
        Checks.due("final class", FeltGlass.class.getModifiers(), Modifier.PUBLIC | Modifier.FINAL);
    }

    private static void constants() throws Exception {
        int promised = 0;
        for (String line : Document.face()) {
            if (!line.contains("public static final int")) continue;
            Matcher constant = Pattern.compile("(\\w+) = (-?\\d+)").matcher(line);
            while (constant.find()) {
                promised++;
                Field field = FeltGlass.class.getField(constant.group(1));
                Checks.due(field.getName(), field.getInt(null), Integer.parseInt(constant.group(2)));
                Checks.holds(field.getName() + " is int", field.getType() == int.class);
            }
        }
        Checks.due("constants of the document's face", promised, 5);
        Checks.due("public fields", FeltGlass.class.getFields().length, promised);
        for (Field field : FeltGlass.class.getDeclaredFields()) {
            int how = field.getModifiers();
            Checks.holds(field + " is hidden", Modifier.isPublic(how) || Modifier.isPrivate(how));
        }
    }

    /** No method that is not of the face bears a name of the face, in the classes inside neither. */
    private static void privateNames() {
        Set<String> names = promisedNames();
        for (Class<?> one : allClasses()) {
            for (Method method : one.getDeclaredMethods()) {
                boolean ofTheFace = one == FeltGlass.class && Modifier.isPublic(method.getModifiers());
                if (!ofTheFace) Checks.holds(method + " has its own name", !names.contains(method.getName()));
            }
        }
    }

    private static List<Class<?>> allClasses() {
        List<Class<?>> all = new ArrayList<>(List.of(FeltGlass.class.getDeclaredClasses()));
        all.add(FeltGlass.class);
        return all;
    }

    private static void nestedClasses() {
        Checks.holds("at most twelve classes", allClasses().size() <= MOST_CLASSES);
        for (Class<?> one : allClasses()) {
            int how = one.getModifiers();
            boolean hidden = Modifier.isStatic(how) && !Modifier.isPublic(how) && !Modifier.isProtected(how);
            Checks.holds(one + " is static and hidden", one == FeltGlass.class || hidden);
            int fields = 0;
            for (Field field : one.getDeclaredFields()) {
                boolean fixed = Modifier.isStatic(field.getModifiers());
                if (fixed) Checks.holds(field + " is final", Modifier.isFinal(field.getModifiers()));
                if (!fixed) fields++;
            }
            Checks.holds(one + " has at most twenty fields", fields <= MOST_FIELDS);
            Checks.due("classes inside " + one, one == FeltGlass.class ? 0 : one.getDeclaredClasses().length, 0);
        }
    }

    private static void methods() throws Exception {
        for (Class<?> one : allClasses()) {
            for (Method method : one.getDeclaredMethods()) {
                Checks.holds(method + " takes few parameters", method.getParameterCount() <= MOST_PARAMETERS);
            }
        }
        String head = "", end = "";
        int lines = 0, seen = 0;
        for (String line : Files.readAllLines(SOURCE)) {
            if (line.matches(" {4,8}[\\w\\[\\] ]+\\(.*\\) \\{") && head.isEmpty()) {
                head = line;
                end = line.substring(0, line.length() - line.stripLeading().length()) + "}";
                lines = 0;
            }
            lines++;
            if (!head.isEmpty() && line.equals(end)) {
                Checks.holds(head + " is short", lines <= MOST_LINES);
                head = "";
                seen++;
            }
        }
        Checks.holds("methods were found in the source", seen > promised().size());
    }

    private static void words() throws Exception {
        String text = Files.readString(SOURCE);
        String code = text.replaceAll("(?s)/\\*.*?\\*/", "").replaceAll("//.*", "");
        Matcher found = RULED_OUT.matcher(code);
        while (found.find()) Checks.due("ruled out: " + found.group(), 1, 0);
    }

    /** The room of a run holds few objects, so that only the constructor may make some. */
    private static void noObjects() {
        if (!(ManagementFactory.getThreadMXBean() instanceof com.sun.management.ThreadMXBean meter)) return;
        FeltGlass x = new FeltGlass();
        long before = 0;
        for (int round = 0; round < 2; round++) {
            before = meter.getThreadAllocatedBytes(Thread.currentThread().getId());
            for (int i = 0; i < 500; i++) useAll(x, i);
        }
        long made = meter.getThreadAllocatedBytes(Thread.currentThread().getId()) - before;
        Checks.due("bytes made by 500 rounds of calls, " + made + ", are few", made < 4000 ? 1 : 0, 1);
    }

    private static void useAll(FeltGlass x, int i) {
        x.glass(3 + i % 6, 8);
        x.blank();
        x.letter('0');
        x.letter('@');
        x.letter('4');
        x.letter(',');
        x.letter('4');
        x.letter('*');
        x.letter('9');
        x.letter('9');
        x.fault();
        x.fingers();
        x.noise(0, 15);
        x.seed(i);
        x.bound(0, 20);
        x.bound(1, 10);
        x.air(20, 150);
        x.warm(1);
        x.frames(4);
        x.settle();
        x.as(0, 0);
        x.digest();
    }
}
