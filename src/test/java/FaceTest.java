import java.lang.reflect.Constructor;
import java.lang.reflect.Field;
import java.lang.reflect.Method;
import java.lang.reflect.Modifier;
import java.nio.charset.StandardCharsets;
import java.nio.file.Files;
import java.nio.file.Path;
import java.util.HashSet;
import java.util.Set;
import java.util.TreeSet;
import java.util.regex.Matcher;
import java.util.regex.Pattern;

/** The public face is the document's, and the source keeps away from what LANGUAGE.md rules out. */
public final class FaceTest {
    private static final String[] FACE = {
        "int branch(int)", "int dial(int,boolean,int,int)", "boolean worn(int,int,int)", "boolean hang(int,int)",
        "boolean set(int,int)", "boolean cut(int,boolean)", "boolean hold(int,boolean)", "boolean stop(boolean)",
        "int minutes(int)", "int quick(int)", "int storm(int,int)", "int at(int,int)", "int wrong()", "int watch(int)",
        "int read(int,int,int)", "int fewest(int)", "int broken(int,int,int)", "int question(int,int)", "int rounds(int,int)",
        "int feed(int,int,int,int,int)", "int end(int)", "int strip()", "int fault(int)", "boolean by(int)", "int rings(int,int)",
        "int next(int,int)", "int often(int,int)", "int together(int,int,int)", "int late(int,int)", "int lesson(int,int)",
        "int image()", "int back()", "int about(int)"};
    private static final String[] RULED_OUT = {
        "\\bthrow\\b", "\\btry\\b", "\\bcatch\\b", "\\bsynchronized\\b", "\\bassert\\b", "->", "::", "Exact\\b",
        "\\bprotected\\b", "\\bObject\\b", "\\bThread\\b", "\\bfinally\\b", "\\bdouble\\b", "\\bfloat\\b"};
    private static int bad = 0;

    private static void check(boolean is, String what) {
        if (!is) {
            bad++;
            System.out.println(what);
        }
    }

    public static void main(String[] args) throws Exception {
        face();
        names();
        source();
        System.out.println(bad == 0 ? "the face is as due" : bad + " faults of the face");
        if (bad != 0) System.exit(1);
    }

    private static void face() {
        Set<String> want = new TreeSet<>(Set.of(FACE));
        Set<String> got = new TreeSet<>();
        for (Method m : HallClock.class.getDeclaredMethods()) {
            if (Modifier.isPrivate(m.getModifiers())) continue;
            check(Modifier.isPublic(m.getModifiers()) && !Modifier.isStatic(m.getModifiers()), "not public: " + m);
            StringBuilder text = new StringBuilder(m.getReturnType() + " " + m.getName() + "(");
            for (Class<?> c : m.getParameterTypes()) text.append(text.charAt(text.length() - 1) == '(' ? "" : ",").append(c);
            got.add(text + ")");
        }
        check(got.equals(want), "the face is " + got);
        check(Modifier.isFinal(HallClock.class.getModifiers()), "the class is not final");
        Constructor<?>[] made = HallClock.class.getDeclaredConstructors();
        check(made.length == 1 && Modifier.isPublic(made[0].getModifiers()) && made[0].getParameterCount() == 0, "the constructor");
        for (Field f : HallClock.class.getDeclaredFields())
            check(Modifier.isPrivate(f.getModifiers()) || f.getName().equals("NONE"), "a field that is not private: " + f);
        check(HallClock.NONE == -1, "NONE");
    }

    private static void names() {
        Set<String> face = new HashSet<>();
        for (String f : FACE) face.add(f.substring(f.indexOf(' ') + 1, f.indexOf('(')));
        check(HallClock.class.getDeclaredClasses().length <= 11, "too many classes");
        for (Class<?> c : HallClock.class.getDeclaredClasses()) {
            check(Modifier.isStatic(c.getModifiers()), "not static: " + c);
            int fields = 0;
            for (Field f : c.getDeclaredFields()) {
                check(!Modifier.isStatic(f.getModifiers()) || Modifier.isFinal(f.getModifiers()), "static, not final: " + f);
                if (!Modifier.isStatic(f.getModifiers())) fields++;
            }
            check(fields <= 20, "too many fields: " + c);
            for (Method m : c.getDeclaredMethods()) {
                check(!face.contains(m.getName()), "a name of the face: " + m);
                check(m.getParameterCount() <= 7, "too many parameters: " + m);
            }
        }
        for (Method m : HallClock.class.getDeclaredMethods())
            check(!Modifier.isPrivate(m.getModifiers()) || !face.contains(m.getName()), "a name of the face: " + m);
    }

    private static void source() throws Exception {
        String path = System.getenv("HALL_CLOCK_SOURCE");
        String source = Files.readString(Path.of(path == null ? "src/main/java/HallClock.java" : path), StandardCharsets.UTF_8);
        String code = source.replaceAll("(?s)/\\*.*?\\*/", "").replaceAll("//[^\n]*", "").replaceAll("\"[^\"]*\"", "\"\"");
        for (String word : RULED_OUT) {
            Matcher m = Pattern.compile(word).matcher(code);
            check(!m.find(), "ruled out: " + word);
        }
        Matcher imports = Pattern.compile("import ([^;]*);").matcher(code);
        while (imports.find()) check(imports.group(1).equals("java.util.Arrays"), "import of " + imports.group(1));
        check(source.chars().allMatch(c -> c == '\n' || c >= 32 && c < 127), "signs beyond 126 in the source");
    }
}
