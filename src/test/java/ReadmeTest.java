import java.io.IOException;
import java.lang.reflect.Method;
import java.lang.reflect.Modifier;
import java.nio.file.Files;
import java.nio.file.Path;
import java.util.ArrayList;
import java.util.Arrays;
import java.util.List;
import java.util.Set;
import java.util.TreeSet;
import java.util.regex.Matcher;
import java.util.regex.Pattern;
import java.util.stream.Stream;

/** What README.md says holds: its calls are made, and nothing is left out of it. */
public final class ReadmeTest {
    private static final Pattern ROW = Pattern.compile("x\\.(\\w+)\\((.*)\\);\\s+// (\\S+)(  .*)?");
    private static final Pattern TEXT = Pattern.compile("String text = \"([^\"]*)\";");

    private static final String MAKING = "FlowConstants x = new FlowConstants();";
    private static final String TYPING =
        "for (int i = 0; i < text.length(); i++) {\n    x.type(text.charAt(i));\n}\n";

    private static final String[] ASKED_FOR = {"Making an object", "Typing a text", "program()", "Asking",
        "Changing", "Undoing", "Running", "Images", "What a refused call answers"};

    private final Set<String> called = new TreeSet<>();
    private FlowConstants x;
    private String text;

    private ReadmeTest() {
    }

    public static void main(String[] args) throws ReflectiveOperationException, IOException {
        String page = Files.readString(Path.of("README.md"));
        ReadmeTest reader = new ReadmeTest();
        reader.makeCalls(page);
        reader.lookForTheFace();
        for (String heading : ASKED_FOR) {
            Check.isTrue("README.md tells of: " + heading, page.contains("\n### " + heading + "\n"));
        }
        lookForTheTests(page);
        Check.end("ReadmeTest");
    }

    private void makeCalls(String page) throws ReflectiveOperationException {
        String[] parts = page.split("```java\n");
        for (int i = 1; i < parts.length; i++) {
            String code = parts[i].substring(0, parts[i].indexOf("```"));
            for (String line : code.replace(TYPING, "type the text\n").split("\n")) {
                makeCall(line);
            }
        }
    }

    private void makeCall(String line) throws ReflectiveOperationException {
        Matcher told = TEXT.matcher(line);
        Matcher row = ROW.matcher(line);
        if (line.equals(MAKING)) {
            x = new FlowConstants();
        } else if (told.matches()) {
            text = told.group(1);
        } else if (line.equals("type the text")) {
            Check.type(x, text);
        } else if (row.matches()) {
            called.add(row.group(1));
            Check.due("README.md: " + line, answer(row.group(1), row.group(2)), number(row.group(3)));
        } else {
            Check.isTrue("README.md has a row that can be tried: " + line, false);
        }
    }

    private int answer(String call, String numbers) throws ReflectiveOperationException {
        List<Object> given = new ArrayList<>();
        for (String number : numbers.isEmpty() ? new String[0] : numbers.split(", ")) {
            given.add(number(number));
        }
        Class<?>[] types = new Class<?>[given.size()];
        Arrays.fill(types, int.class);
        return (Integer) FlowConstants.class.getMethod(call, types).invoke(x, given.toArray());
    }

    /** A number, a sign in quotes, or a constant of the class. */
    private static int number(String told) throws ReflectiveOperationException {
        if (told.length() == 3 && told.charAt(0) == '\'') {
            return told.charAt(1);
        }
        return told.matches("[A-Z]+") ? FlowConstants.class.getField(told).getInt(null) : Integer.parseInt(told);
    }

    private void lookForTheFace() {
        for (Method m : FlowConstants.class.getDeclaredMethods()) {
            if (Modifier.isPublic(m.getModifiers())) {
                Check.isTrue("README.md has a row of " + m.getName(), called.contains(m.getName()));
            }
        }
    }

    private static void lookForTheTests(String page) throws IOException {
        Check.isTrue("README.md says how to run the tests", page.contains("\n    .ci/run\n"));
        try (Stream<Path> files = Files.list(Path.of("src/test/java"))) {
            for (Path file : files.sorted().toList()) {
                String test = file.getFileName().toString().replace(".java", "");
                Check.isTrue("README.md tells of " + test, !test.endsWith("Test") || page.contains("`" + test + "`"));
            }
        }
    }
}
