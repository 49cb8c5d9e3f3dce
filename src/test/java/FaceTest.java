import java.lang.reflect.Constructor;
import java.lang.reflect.Field;
import java.lang.reflect.Method;
import java.lang.reflect.Modifier;
import java.nio.file.Files;
import java.nio.file.Path;
import java.util.Arrays;
import java.util.Set;
import java.util.TreeSet;
import java.util.regex.Pattern;

/** The public face, the rules of the language that can be seen from outside, and that no call ever throws. */
public final class FaceTest {
    private static final Check CHECK = new Check("FaceTest");
    private static final String[] FACE = {
        "int feed(int,long)", "int read()", "int fault()", "int village(int)", "int least(int)", "int does(int,int,int,int)",
        "int step(int,int)", "int from(int,int,int)", "int helped(int,int)", "int fit(int,int)",
        "long other(int,int,int,int)", "int gain(int,int,int)", "int holds(int)", "int all(int)", "int best(int)",
        "int plain(int)", "int bears(int)", "int turned(int)", "int kinds()",
        "int view(int,int)", "int call(int,int,int)", "int meet(int,int,int)", "int kin(int,int)", "int talk(int,int)",
        "int agreed(int)", "int forget()"};
    private static final Set<String> NAMES = new TreeSet<>();
    private static final int[] ODD = {Integer.MIN_VALUE, -4096, -2, -1, 0, 1, 5, 6, 15, 63, 64, 120, 1000, 1001, 4095, 4096, Integer.MAX_VALUE};

    public static void main(String[] args) throws Exception {
        for (String s : FACE) NAMES.add(s.replaceAll(".* |\\(.*", ""));
        face();
        constants();
        classesInside();
        source();
        noCallThrows();
        CHECK.end();
    }

    private static void face() {
        CHECK.holds("public and final", Modifier.isPublic(SaidOfHim.class.getModifiers()) && Modifier.isFinal(SaidOfHim.class.getModifiers()));
        Set<String> due = new TreeSet<>(Arrays.asList(FACE));
        for (Method m : SaidOfHim.class.getDeclaredMethods()) {
            if (m.isSynthetic()) continue;
            StringBuilder s = new StringBuilder(m.getReturnType() + " " + m.getName() + "(");
            for (Class<?> c : m.getParameterTypes()) s.append(s.charAt(s.length() - 1) == '(' ? "" : ",").append(c);
            s.append(')');
            if (Modifier.isPublic(m.getModifiers())) CHECK.holds("in the face: " + s, due.remove(s.toString()));
            else CHECK.holds("private, and no name of the face: " + s, Modifier.isPrivate(m.getModifiers()) && !NAMES.contains(m.getName()));
            CHECK.holds("at most seven parameters", m.getParameterCount() <= 7);
        }
        CHECK.due("missing " + due, due.size(), 0);
        Constructor<?>[] made = SaidOfHim.class.getDeclaredConstructors();
        CHECK.holds("one constructor", made.length == 1 && made[0].getParameterCount() == 0 && Modifier.isPublic(made[0].getModifiers()));
    }

    private static void constants() {
        CHECK.due("NONE", SaidOfHim.NONE, -1);
        CHECK.due("UNKNOWN", SaidOfHim.UNKNOWN, -1001);
        CHECK.due("OUTSIDE", SaidOfHim.OUTSIDE, -1002);
        CHECK.due("NOT", SaidOfHim.NOT, -1003);
        CHECK.due("FULL", SaidOfHim.FULL, -1004);
        int open = 0;
        for (Field f : SaidOfHim.class.getDeclaredFields()) {
            if (!Modifier.isPrivate(f.getModifiers())) open++;
            if (Modifier.isStatic(f.getModifiers())) CHECK.holds("final " + f, Modifier.isFinal(f.getModifiers()));
        }
        CHECK.due("open fields", open, 5);
    }

    private static void classesInside() {
        Class<?>[] inside = SaidOfHim.class.getDeclaredClasses();
        CHECK.holds("at most twelve classes", inside.length < 12);
        for (Class<?> c : inside) {
            CHECK.holds("static " + c, Modifier.isStatic(c.getModifiers()) && !Modifier.isPublic(c.getModifiers()));
            int fields = 0;
            for (Field f : c.getDeclaredFields()) if (!Modifier.isStatic(f.getModifiers())) fields++;
            CHECK.holds("at most twenty fields", fields <= 20);
            for (Method m : c.getDeclaredMethods()) {
                CHECK.holds("at most seven parameters", m.getParameterCount() <= 7);
                CHECK.holds("no name of the face: " + m, !NAMES.contains(m.getName()));
            }
        }
    }

    private static void source() throws Exception {
        String text = Files.readString(Path.of("src/main/java/SaidOfHim.java"));
        String code = Pattern.compile("/\\*.*?\\*/|//[^\n]*", Pattern.DOTALL).matcher(text).replaceAll(" ");
        for (String word : new String[] {"throw", "throws", "try", "catch", "finally", "synchronized", "assert", "package", "import",
            "Object", "System", "Random", "Thread", "hashCode", "toString", "protected", "volatile", "transient", "native"}) {
            CHECK.holds("no " + word, !Pattern.compile("\\b" + word + "\\b").matcher(code).find());
        }
        for (String sign : new String[] {"->", "::", "Exact(", "@", "\\u"}) CHECK.holds("no " + sign, !code.contains(sign));
        for (char c : text.toCharArray()) if (c > 126) CHECK.holds("signs up to 126", false);
    }

    private static void noCallThrows() throws Exception {
        SaidOfHim x = new SaidOfHim();
        for (Method m : SaidOfHim.class.getDeclaredMethods()) {
            if (!Modifier.isPublic(m.getModifiers())) continue;
            int n = m.getParameterCount();
            int all = 1;
            for (int k = 0; k < n; k++) all *= ODD.length;
            // of those with four numbers every seventh combination
            for (int i = 0; i < all; i += n == 4 ? 7 : 1) {
                Object[] given = new Object[n];
                for (int k = 0, rest = i; k < n; k++, rest /= ODD.length) {
                    int v = ODD[rest % ODD.length];
                    given[k] = m.getParameterTypes()[k] == long.class ? (Object) Long.valueOf(v * 0x100000001L) : (Object) Integer.valueOf(v);
                }
                try {
                    m.invoke(x, given);
                } catch (java.lang.reflect.InvocationTargetException e) {
                    CHECK.holds(m.getName() + Arrays.toString(given) + " threw " + e.getCause(), false);
                }
            }
            CHECK.holds(m.getName() + " was called", true);
        }
    }
}
