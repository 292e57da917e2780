import java.io.IOException;
import java.lang.reflect.Constructor;
import java.lang.reflect.Field;
import java.lang.reflect.Method;
import java.lang.reflect.Modifier;
import java.nio.file.Files;
import java.nio.file.Path;
import java.util.HashMap;
import java.util.Map;
import java.util.Set;
import java.util.TreeSet;
import java.util.regex.Matcher;
import java.util.regex.Pattern;

/** The document's face, and what of LANGUAGE.md can be seen from outside. */
public final class LanguageTest {
    private static final String FACE = "type(int) clear() program() name(int,int) found(int) block(int,int) "
        + "knows(int,int) forgets(int) gives(int,int) patches(int,int) turned(int) undo() run() visits(int) "
        + "last(int) count(int) best(int) keep(int) back(int) asked()";
    private static final String CONSTANTS = "BAD STATE FULL NONE NEVER ONE ANY";

    private LanguageTest() {
    }

    public static void main(String[] args) throws IOException {
        face();
        classes();
        source(Files.readString(Path.of("src/main/java/FlowConstants.java")));
        Check.end("LanguageTest");
    }

    // Rule 1
    private static void face() {
        Class<?> main = FlowConstants.class;
        Check.isTrue("public and final", main.getModifiers() == (Modifier.PUBLIC | Modifier.FINAL));
        Set<String> methods = new TreeSet<>();
        for (Method m : main.getDeclaredMethods()) {
            if (!Modifier.isPrivate(m.getModifiers())) {
                Check.isTrue("public, of an object: " + m, m.getModifiers() == Modifier.PUBLIC);
                Check.isTrue("answers an int: " + m, m.getReturnType() == int.class);
                methods.add(m.getName() + parametersOf(m));
            }
        }
        Check.isTrue("the methods are the document's: " + methods, methods.equals(words(FACE)));
        Set<String> fields = new TreeSet<>();
        for (Field f : main.getDeclaredFields()) {
            if (!Modifier.isPrivate(f.getModifiers())) {
                fields.add(f.getName());
            }
        }
        Check.isTrue("the constants are the document's: " + fields, fields.equals(words(CONSTANTS)));
        Constructor<?>[] made = main.getDeclaredConstructors();
        Check.isTrue("one constructor, without parameters", made.length == 1
            && made[0].getModifiers() == Modifier.PUBLIC && made[0].getParameterCount() == 0);
    }

    private static String parametersOf(Method m) {
        StringBuilder types = new StringBuilder();
        for (Class<?> type : m.getParameterTypes()) {
            types.append(types.length() == 0 ? "" : ",").append(type.getName());
        }
        return "(" + types + ")";
    }

    private static Set<String> words(String text) {
        return new TreeSet<>(Set.of(text.split(" ")));
    }

    // Rules 1, 2, 5, 11
    private static void classes() {
        Class<?>[] inside = FlowConstants.class.getDeclaredClasses();
        Check.isTrue("some twelve classes", inside.length < 12);
        members(FlowConstants.class);
        for (Class<?> c : inside) {
            Check.isTrue("static: " + c, Modifier.isStatic(c.getModifiers()));
            members(c);
        }
    }

    private static void members(Class<?> c) {
        Set<String> face = new TreeSet<>();
        for (String word : FACE.split(" ")) {
            face.add(word.substring(0, word.indexOf('(')));
        }
        for (Method m : c.getDeclaredMethods()) {
            Check.isTrue("at most seven parameters: " + m, m.getParameterCount() <= 7);
            Check.isTrue("a name of its own: " + m,
                Modifier.isPublic(m.getModifiers()) || !face.contains(m.getName()));
        }
        int fields = 0;
        for (Field f : c.getDeclaredFields()) {
            boolean isStatic = Modifier.isStatic(f.getModifiers());
            fields += isStatic ? 0 : 1;
            Check.isTrue("a constant: " + f,
                !isStatic || Modifier.isFinal(f.getModifiers()) && f.getType() == int.class);
        }
        Check.isTrue("some twenty fields: " + c, fields <= 20);
    }

    // Rules 4, 6, 11, 12
    private static void source(String file) {
        String code = file.replaceAll("(?s)/\\*.*?\\*/", "").replaceAll("//[^\n]*", "").replaceAll("'[^'\n]'", "0");
        String[] never = {"\\bthrow\\b", "\\btry\\b", "\\bcatch\\b", "\\bsynchronized\\b", "\\bassert\\b", "->", "::",
            "\\bpackage\\b", "\\bthrows\\b", "Exact\\b", "\\bdouble\\b", "\\bfloat\\b", "\"", "\\bprotected\\b",
            "\\bSystem\\.(?!arraycopy\\b)", "\\bArrays\\.(?!(fill|copyOf|copyOfRange)\\b)",
            "\\bimport (?!java\\.util\\.Arrays;)", "\\bstatic \\{", "\\bfor \\(;", "\\bwhile \\(true"};
        for (String word : never) {
            Check.isTrue("nothing like " + word, !Pattern.compile(word).matcher(code).find());
        }
        for (int i = 0; i < file.length(); i++) {
            Check.isTrue("signs 1 to 127", file.charAt(i) > 0 && file.charAt(i) < 128);
        }
        methodsAreShort(code);
        callsAreFlat(code);
        madeInConstructors(code);
    }

    private static void methodsAreShort(String code) {
        Matcher body = Pattern.compile("(?ms)^( {4}| {8})[a-z][^;=\n]*\\) \\{\n.*?^\\1\\}\n").matcher(code);
        int methods = 0;
        while (body.find()) {
            methods++;
            long lines = body.group().lines().count();
            Check.isTrue("some sixty lines: " + body.group().lines().findFirst(), lines <= 60);
        }
        Check.isTrue("methods were seen: " + methods, methods > 80);
    }

    /** Rules 8, 11: no recursion, eight calls deep at most. No two methods share a name, so names tell. */
    private static void callsAreFlat(String code) {
        Map<String, String> bodies = new HashMap<>();
        Matcher body = Pattern.compile(
            "(?ms)^( {4}| {8})(?:\\w+ )*(?:int|void|boolean) (\\w+)\\([^)]*\\) \\{\n(.*?)^\\1\\}\n").matcher(code);
        while (body.find()) {
            Check.isTrue("a name of its own: " + body.group(2), bodies.put(body.group(2), body.group(3)) == null);
        }
        Check.isTrue("methods were seen: " + bodies.size(), bodies.size() > 80);
        for (String method : bodies.keySet()) {
            Check.isTrue("at most eight deep: " + method, depthOf(method, bodies, 1) <= 8);
        }
    }

    private static int depthOf(String method, Map<String, String> bodies, int above) {
        int deepest = above;
        Matcher call = Pattern.compile("\\b(\\w+)\\(").matcher(bodies.get(method));
        while (call.find() && deepest <= 8) {
            if (bodies.containsKey(call.group(1))) {
                deepest = Math.max(deepest, depthOf(call.group(1), bodies, above + 1));
            }
        }
        return deepest;
    }

    /** What a call makes would be counted: rows are made with the object, and used again. */
    private static void madeInConstructors(String code) {
        int begin = code.indexOf("public FlowConstants() {");
        int end = code.indexOf("\n    }\n", begin);
        Check.isTrue("the constructor is there", begin > 0 && end > begin);
        String rest = code.substring(0, begin) + code.substring(end);
        Check.isTrue("nothing is made elsewhere", !Pattern.compile("\\bnew\\b")
            .matcher(rest.replaceAll("(?m)^ +final int\\[\\] \\w+ = new int\\[[^\\]]+\\];$", "")).find());
    }
}
