import java.io.IOException;
import java.lang.reflect.Constructor;
import java.lang.reflect.Field;
import java.lang.reflect.Method;
import java.lang.reflect.Modifier;
import java.nio.file.Files;
import java.nio.file.Path;
import java.util.ArrayList;
import java.util.Arrays;
import java.util.List;
import java.util.Map;
import java.util.Set;
import java.util.TreeMap;
import java.util.TreeSet;
import java.util.regex.Matcher;
import java.util.regex.Pattern;

/** The document's face, and those rules of LANGUAGE.md that can be seen from outside. */
public final class LanguageTest {
    private static final String FACE = """
        public int people(int n);
        public int tie(int person, int other, int weight);
        public int set(int person, int what, int v);
        public int about(int person, int what);
        public int sees(int person, int other);
        public int sum(int person, int dress);
        public int calm(int dress);
        public int after(int dress, int way, int steps);
        public int run(int dress, int way, int what);
        public int rings(int way);
        public int ring(int way, int ring, int what);
        public int longest(int way);
        public int rests();
        public int rest(int i);
        public int even();
        public int heat(int dress);
        public int lone(int person, int dress);
        public int settled();
        public int witness();
        public int turn();
        public int turned();
        public int hold(boolean dress);
        public int may(int dress, int rest);
        public int mays(int dress);
        public int soon(int dress);
        public long likely(int dress, int draws, boolean upper);
        public int week(int dress);
        public int wipe();
        public int maybe(int person);
        public long ways();
        public int take();
        public int asked(int dress, int way, int steps);
        public int gain(int way, int steps, int s, int cost, int price);
        public int order(int way, int steps, int cost, int price);
        public int count(int what);
        """;
    private static final Check check = new Check("LanguageTest");

    public static void main(String[] args) throws IOException {
        face();
        noOtherNames();
        classes();
        String text = withoutComments(Files.readString(Path.of("src/main/java/NotLikeThem.java")));
        words(text);
        methodsAreShort(text);
        callsAreNotDeep(text);
        check.end();
    }

    private static Set<String> dueFace() {
        Set<String> due = new TreeSet<>();
        for (String line : FACE.split("\n")) {
            // Names of parameters are not part of what a caller sees.
            due.add(line.trim().replaceAll("(int|long|boolean) \\w+([,)])", "$1$2").replace(" ", "").replace("public", ""));
        }
        return due;
    }

    private static void face() {
        Set<String> found = new TreeSet<>();
        for (Method method : NotLikeThem.class.getDeclaredMethods()) {
            if (Modifier.isPrivate(method.getModifiers())) continue;
            check.isTrue(method + " is public, not static", Modifier.isPublic(method.getModifiers()) && !Modifier.isStatic(method.getModifiers()));
            List<String> types = new ArrayList<>();
            for (Class<?> type : method.getParameterTypes()) types.add(type.getName());
            found.add(method.getReturnType() + method.getName() + "(" + String.join(",", types) + ");");
        }
        check.isTrue("the methods of the face: " + found, found.equals(dueFace()));
        Set<String> fields = new TreeSet<>();
        for (Field field : NotLikeThem.class.getDeclaredFields()) {
            if (!Modifier.isPrivate(field.getModifiers())) fields.add(field.getName());
        }
        check.isTrue("the constants: " + fields, fields.equals(Set.of("UNKNOWN", "OUTSIDE", "STATE", "FULL", "NONE")));
        Constructor<?>[] constructors = NotLikeThem.class.getDeclaredConstructors();
        check.due("constructors", constructors.length, 1);
        check.due("arguments of the constructor", constructors[0].getParameterCount(), 0);
        check.isTrue("the class is public and final", NotLikeThem.class.getModifiers() == (Modifier.PUBLIC | Modifier.FINAL));
    }

    private static void noOtherNames() {
        Set<String> names = new TreeSet<>();
        for (Method method : NotLikeThem.class.getDeclaredMethods()) {
            if (Modifier.isPublic(method.getModifiers())) names.add(method.getName());
        }
        for (Class<?> inside : NotLikeThem.class.getDeclaredClasses()) {
            for (Method method : inside.getDeclaredMethods()) {
                check.isTrue(inside.getSimpleName() + "." + method.getName() + " has a name of its own", !names.contains(method.getName()));
            }
        }
        for (Method method : NotLikeThem.class.getDeclaredMethods()) {
            if (Modifier.isPrivate(method.getModifiers())) check.isTrue(method.getName(), !names.contains(method.getName()));
        }
    }

    private static void classes() {
        List<Class<?>> all = new ArrayList<>(Arrays.asList(NotLikeThem.class.getDeclaredClasses()));
        check.isTrue("at most twelve classes", all.size() < 12);
        for (Class<?> inside : all) {
            check.isTrue(inside + " is static", Modifier.isStatic(inside.getModifiers()));
            check.isTrue(inside + " is not public", !Modifier.isPublic(inside.getModifiers()) && !Modifier.isProtected(inside.getModifiers()));
        }
        all.add(NotLikeThem.class);
        for (Class<?> one : all) {
            int own = 0;
            for (Field field : one.getDeclaredFields()) {
                if (!Modifier.isStatic(field.getModifiers())) own++;
                else check.isTrue(field + " is final", Modifier.isFinal(field.getModifiers()));
            }
            check.isTrue(one + " has at most twenty fields", own <= 20);
            for (Method method : one.getDeclaredMethods()) {
                check.isTrue(method + " has at most seven parameters", method.getParameterCount() <= 7);
            }
        }
    }

    private static String withoutComments(String text) {
        return text.replaceAll("(?s)/\\*.*?\\*/", "").replaceAll("//[^\n]*", "");
    }

    private static void words(String text) {
        String[] never = {
            "throw", "throws", "try", "catch", "finally", "synchronized", "assert", "import", "package",
            "System", "Object", "Random", "Thread", "hashCode", "toString", "equals", "goto", "volatile", "transient",
        };
        for (String word : never) check.isTrue("no " + word, !Pattern.compile("\\b" + word + "\\b").matcher(text).find());
        check.isTrue("no lambda, no method reference", !text.contains("->") && !text.contains("::"));
        check.isTrue("no names ending in Exact", !text.contains("Exact"));
        check.isTrue("no text", !text.contains("\""));
        for (int i = 0; i < text.length(); i++) {
            if (text.charAt(i) > 127) check.isTrue("no sign above 127", false);
        }
        Matcher calls = Pattern.compile("\\b(Math|Integer|Long)\\.(\\w+)").matcher(text);
        Set<String> listed = Set.of("Math.max", "Math.min", "Math.abs", "Integer.bitCount");
        while (calls.find()) check.isTrue(calls.group() + " is listed", listed.contains(calls.group()));
    }

    private static void methodsAreShort(String text) {
        int start = -1;
        int most = 0;
        String[] lines = text.split("\n");
        for (int i = 0; i < lines.length; i++) {
            if (lines[i].matches(" {4,8}\\S.*\\) \\{")) start = i;
            if (lines[i].matches(" {4,8}\\}") && start >= 0) {
                most = Math.max(most, i - start + 1);
                start = -1;
            }
        }
        check.isTrue("the longest method has " + most + " lines", most > 5 && most <= 60);
    }

    /** Calls go at most eight deep, the public one and the library's too; methods of one name as one. */
    private static void callsAreNotDeep(String text) {
        Map<String, String> bodies = new TreeMap<>();
        Matcher heads = Pattern.compile("(?m)^( {4}| {8})(?:[\\w\\[\\]]+ )*(\\w+)\\([^)]*\\) \\{$").matcher(text);
        while (heads.find()) {
            int end = text.indexOf("\n" + heads.group(1) + "}", heads.end());
            bodies.merge(heads.group(2), text.substring(heads.end(), end), String::concat);
        }
        check.isTrue(bodies.size() + " methods", bodies.size() > 80);
        int deepest = 0;
        for (String name : bodies.keySet()) deepest = Math.max(deepest, depth(name, bodies, 0));
        check.isTrue("calls go " + deepest + " deep", deepest > 3 && deepest <= 8);
    }

    private static int depth(String name, Map<String, String> bodies, int above) {
        if (!bodies.containsKey(name)) return 1;
        if (above > 20) return above;
        int below = 0;
        Matcher calls = Pattern.compile("\\b([a-zA-Z]\\w*)\\(").matcher(bodies.get(name));
        while (calls.find()) below = Math.max(below, depth(calls.group(1), bodies, above + 1));
        return 1 + below;
    }
}
