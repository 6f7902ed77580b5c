import java.lang.management.ManagementFactory;
import java.lang.reflect.Constructor;
import java.lang.reflect.Field;
import java.lang.reflect.Method;
import java.lang.reflect.Modifier;
import java.nio.file.Files;
import java.nio.file.Path;
import java.util.Set;
import java.util.TreeSet;
import java.util.regex.Matcher;
import java.util.regex.Pattern;

/** The public face, the words that LANGUAGE.md rules out, and that calls make no objects. */
public final class FaceTest {
    private static final String[] FACE = {
        "int letter(int)", "int blank()", "int fault()", "int fingers()", "int glass(int,int)", "int air(int,int)",
        "int warm(int)", "int noise(int,int)", "int seed(int)", "int bound(int,int)", "int settle()",
        "int frames(int)", "int finger(int,int)", "int cell(int,int)", "int about(int)", "int spot(int,int)",
        "int track(int,int)", "int as(int,int)", "int event(int,int)", "int count(int)", "int events(int)",
        "long digest()"};
    private static final Pattern RULED_OUT = Pattern.compile(
        "\\b(throw|throws|try|catch|finally|synchronized|assert|protected|native|volatile|transient|double|float)\\b"
        + "|->|::|\\w+Exact\\b|\\bSystem\\.(?!arraycopy)|\\bimport (?!java\\.util\\.Arrays;)|[^\\x00-\\x7f]");

    public static void main(String[] args) throws Exception {
        face();
        constants();
        nestedClasses();
        words();
        noObjects();
        Checks.end();
    }

    private static void face() {
        Set<String> open = new TreeSet<>();
        Set<String> closed = new TreeSet<>();
        for (Method method : FeltGlass.class.getDeclaredMethods()) {
            StringBuilder text = new StringBuilder(method.getReturnType() + " " + method.getName() + "(");
            for (Class<?> type : method.getParameterTypes()) {
                if (text.charAt(text.length() - 1) != '(') text.append(',');
                text.append(type);
            }
            boolean seen = Modifier.isPublic(method.getModifiers()) && !Modifier.isStatic(method.getModifiers());
            if (seen) open.add(text + ")");
            else if (!Modifier.isPrivate(method.getModifiers())) open.add("stray " + text);
            else closed.add(method.getName());
        }
        Checks.due("face " + open, open.equals(new TreeSet<>(Set.of(FACE))) ? 1 : 0, 1);
        for (String signature : FACE) {
            String name = signature.substring(signature.indexOf(' ') + 1, signature.indexOf('('));
            Checks.due("private " + name, closed.contains(name) ? 1 : 0, 0);
        }
        Constructor<?>[] makers = FeltGlass.class.getDeclaredConstructors();
        Checks.due("constructors", makers.length, 1);
        Checks.due("public constructor", makers[0].getModifiers(), Modifier.PUBLIC);
        Checks.due("its parameters", makers[0].getParameterCount(), 0);
        Checks.due("final class", FeltGlass.class.getModifiers(), Modifier.PUBLIC | Modifier.FINAL);
    }

    private static void constants() throws Exception {
        String[] names = {"NONE", "UNKNOWN", "OUTSIDE", "STATE", "FULL"};
        int[] values = {-1, -10001, -10002, -10003, -10004};
        for (int i = 0; i < names.length; i++) {
            Field field = FeltGlass.class.getField(names[i]);
            Checks.due(names[i], field.getInt(null), values[i]);
            Checks.due(names[i] + " is int", field.getType() == int.class ? 1 : 0, 1);
        }
        Checks.due("public fields", FeltGlass.class.getFields().length, names.length);
        for (Field field : FeltGlass.class.getDeclaredFields()) {
            int how = field.getModifiers();
            Checks.due(field + " is hidden", Modifier.isPublic(how) || Modifier.isPrivate(how) ? 1 : 0, 1);
            Checks.due(field + " is fixed if static", Modifier.isStatic(how) && !Modifier.isFinal(how) ? 1 : 0, 0);
        }
    }

    private static void nestedClasses() {
        Class<?>[] nested = FeltGlass.class.getDeclaredClasses();
        Checks.due("at most twelve classes", nested.length + 1 <= 12 ? 1 : 0, 1);
        for (Class<?> one : nested) {
            int how = one.getModifiers();
            Checks.due(one + " is static and hidden", Modifier.isStatic(how) && !Modifier.isPublic(how) ? 1 : 0, 1);
            int fields = 0;
            for (Field field : one.getDeclaredFields()) {
                if (!Modifier.isStatic(field.getModifiers())) fields++;
            }
            Checks.due(one + " has at most twenty fields", fields <= 20 ? 1 : 0, 1);
        }
    }

    private static void words() throws Exception {
        String text = Files.readString(Path.of("src/main/java/FeltGlass.java"));
        String code = text.replaceAll("(?s)/\\*.*?\\*/", "").replaceAll("//.*", "");
        Matcher found = RULED_OUT.matcher(code);
        while (found.find()) Checks.due("ruled out: " + found.group(), 1, 0);
    }

    /** The room of a run holds few objects, so that only the constructor may make some. */
    private static void noObjects() {
        if (!(ManagementFactory.getThreadMXBean() instanceof com.sun.management.ThreadMXBean meter)) return;
        FeltGlass x = new FeltGlass();
        long before = 0;
        for (int round = 0; round < 2; round++) {
            before = meter.getThreadAllocatedBytes(Thread.currentThread().getId());
            for (int i = 0; i < 500; i++) useAll(x, i);
        }
        long made = meter.getThreadAllocatedBytes(Thread.currentThread().getId()) - before;
        Checks.due("bytes made by 500 rounds of calls, " + made + ", are few", made < 4000 ? 1 : 0, 1);
    }

    private static void useAll(FeltGlass x, int i) {
        x.glass(3 + i % 6, 8);
        x.blank();
        x.letter('0');
        x.letter('@');
        x.letter('4');
        x.letter(',');
        x.letter('4');
        x.letter('*');
        x.letter('9');
        x.letter('9');
        x.fault();
        x.fingers();
        x.noise(0, 15);
        x.seed(i);
        x.bound(0, 20);
        x.bound(1, 10);
        x.air(20, 150);
        x.warm(1);
        x.frames(4);
        x.settle();
        x.as(0, 0);
        x.digest();
    }
}
