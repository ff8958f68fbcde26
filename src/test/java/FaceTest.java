import java.lang.reflect.Constructor;
import java.lang.reflect.Field;
import java.lang.reflect.Method;
import java.lang.reflect.Modifier;
import java.nio.file.Files;
import java.nio.file.Path;
import java.util.ArrayList;
import java.util.Arrays;
import java.util.List;
import java.util.Map;
import java.util.TreeMap;
import java.util.TreeSet;
import java.util.regex.Matcher;
import java.util.regex.Pattern;

/** The document's face and no more, and what of ../shared/LANGUAGE.md can be seen from outside or from the text. */
public final class FaceTest {
    private static final String[] FACE = {
        "write(long,int)", "erase()", "fault()", "stair()", "step(int,int)", "one(int,int)", "as(int,int)",
        "up(int,int,int)", "down(int,int)", "helped(int,int)", "keep(int)", "back(int)", "help(int,int)",
        "soonest()", "way(int,int)", "lasts()", "most(int)", "soon(int)", "many(int)", "roped(int)",
        "odds(int,int)", "row(int,int)", "burn()", "judge()", "count(int)"};
    private static int wrong;

    private static void must(boolean holds, String what) {
        if (!holds) {
            wrong++;
            System.out.println("not so: " + what);
        }
    }

    private static String signature(Method m) {
        List<String> types = new ArrayList<>();
        for (Class<?> type : m.getParameterTypes()) types.add(type.getName());
        return m.getName() + "(" + String.join(",", types) + ")";
    }

    private static void face() throws Exception {
        Class<?> c = GiantStair.class;
        must(Modifier.isPublic(c.getModifiers()) && Modifier.isFinal(c.getModifiers()), "the class is public and final");
        TreeSet<String> methods = new TreeSet<>(), names = new TreeSet<>();
        for (Method m : c.getDeclaredMethods()) {
            if (Modifier.isPrivate(m.getModifiers())) continue;
            must(m.getReturnType() == int.class && m.getModifiers() == Modifier.PUBLIC, "a public int " + m);
            methods.add(signature(m));
            names.add(m.getName());
        }
        must(methods.equals(new TreeSet<>(Arrays.asList(FACE))), "the methods are " + methods);
        must(c.getDeclaredConstructors().length == 1, "one constructor");
        Constructor<?> made = c.getDeclaredConstructors()[0];
        must(made.getParameterCount() == 0 && Modifier.isPublic(made.getModifiers()), "GiantStair() is public");
        Map<String, Integer> constants = new TreeMap<>();
        for (Field f : c.getDeclaredFields()) {
            if (!Modifier.isPrivate(f.getModifiers())) constants.put(f.getName(), f.getInt(null));
        }
        must(constants.equals(new TreeMap<>(Map.of("NONE", -1, "UNKNOWN", -2, "OUTSIDE", -3, "NOT", -4, "FULL", -5))),
            "the constants are " + constants);
        must(c.getDeclaredClasses().length <= 12, "some twelve classes");
        List<Class<?>> all = new ArrayList<>(Arrays.asList(c.getDeclaredClasses()));
        for (Class<?> inner : all) {
            must(Modifier.isStatic(inner.getModifiers()) && !Modifier.isPublic(inner.getModifiers()), inner + " is static");
            for (Method m : inner.getDeclaredMethods()) must(!names.contains(m.getName()), m + " has a name of its own");
        }
        for (Method m : c.getDeclaredMethods()) {
            must(!Modifier.isPrivate(m.getModifiers()) || !names.contains(m.getName()), m + " has a name of its own");
        }
        all.add(c);
        for (Class<?> each : all) fields(each);
    }

    private static void fields(Class<?> c) {
        int count = 0;
        for (Field f : c.getDeclaredFields()) {
            if (Modifier.isStatic(f.getModifiers())) must(Modifier.isFinal(f.getModifiers()), f + " is final");
            else count++;
        }
        must(count <= 20, c + " has some twenty fields");
    }

    private static String withoutComments(String source) {
        return source.replaceAll("(?s)/\\*.*?\\*/", "").replaceAll("//[^\n]*", "");
    }

    private static void language(String source) {
        Matcher m = Pattern.compile("\\b(throw|throws|try|catch|finally|synchronized|assert|protected|native|transient|volatile"
            + "|equals|hashCode|toString|System\\.(?!arraycopy)\\w+|Random|Thread|\\w+Exact)\\b|->|::|@|\"[^\"]*\"\\s*\\+").matcher(source);
        while (m.find()) must(false, "no " + m.group());
        m = Pattern.compile("import ([^;]*);").matcher(source);
        while (m.find()) must(m.group(1).equals("java.util.Arrays"), "no import of " + m.group(1));
        for (char sign : source.toCharArray()) must(sign > 0 && sign < 128, "signs are 1 to 127");
    }

    /** Methods by their own indent: from the line of the name to the closing brace below it. */
    private static Map<String, String> methods(String source) {
        Map<String, String> bodies = new TreeMap<>();
        Matcher m = Pattern.compile("(?m)^( {4}| {8})(?!return|new|else|if|for|while|switch)"
            + "(?:[\\w\\[\\]]+ )*(\\w+)\\(([^)]*)\\) \\{$").matcher(source);
        while (m.find()) {
            int end = source.indexOf("\n" + m.group(1) + "}", m.end());
            must(end > 0, m.group(2) + " has an end");
            String body = source.substring(m.end(), Math.max(end, m.end()));
            must(body.split("\n").length <= 60, m.group(2) + " is short");
            must(m.group(3).split(",").length <= 7, m.group(2) + " has at most seven parameters");
            bodies.merge(m.group(2), body, String::concat);
        }
        return bodies;
    }

    /** How many methods are open at once; of one name all are taken together. */
    private static int depth(String method, Map<String, String> bodies, int above) {
        if (above > 30) return 0;
        int deepest = 0;
        Matcher m = Pattern.compile("\\b(\\w+)\\(").matcher(bodies.get(method));
        while (m.find()) {
            if (bodies.containsKey(m.group(1))) deepest = Math.max(deepest, depth(m.group(1), bodies, above + 1));
        }
        return deepest + 1;
    }

    /** Calls that the machine would have to refuse, if no index, divisor or length were looked at. */
    private static void wildCalls() {
        int[] wild = {Integer.MIN_VALUE, Integer.MIN_VALUE + 1, -7, -1, 0, 1, 4, 5, 31, 32, 64, Integer.MAX_VALUE - 1, Integer.MAX_VALUE};
        GiantStair x = new GiantStair();
        for (int a : wild) {
            x.keep(a); x.back(a); x.most(a); x.soon(a); x.many(a); x.roped(a); x.count(a);
            for (int b : wild) {
                x.write(Long.MIN_VALUE + a, b); x.fault(); x.stair();
                x.step(a, b); x.one(a, b); x.as(a, b); x.down(a, b); x.helped(a, b); x.help(a, b);
                x.way(a, b); x.odds(a, b); x.row(a, b); x.judge();
                for (int c : wild) x.up(a, b, c);
            }
        }
        must(x.count(1) == 0 && x.count(2) == 0, "nothing changes");
    }

    public static void main(String[] args) throws Exception {
        face();
        String source = withoutComments(Files.readString(Path.of("src/main/java/GiantStair.java")));
        language(source);
        Map<String, String> bodies = methods(source);
        for (String signature : FACE) {
            String name = signature.substring(0, signature.indexOf('('));
            must(bodies.containsKey(name), name + " is found in the text");
            if (bodies.containsKey(name)) {
                int depth = depth(name, bodies, 0);
                must(depth <= 8, name + " goes at most eight deep, not " + depth);
            }
        }
        wildCalls();
        System.out.println(wrong == 0 ? "the face is as due" : wrong + " faults in the face");
        if (wrong != 0) System.exit(1);
    }
}
