import java.io.IOException;
import java.lang.reflect.Field;
import java.lang.reflect.Method;
import java.lang.reflect.Modifier;
import java.nio.file.DirectoryStream;
import java.nio.file.Files;
import java.nio.file.Path;
import java.util.ArrayList;
import java.util.List;
import java.util.Set;
import java.util.TreeSet;
import java.util.regex.Matcher;
import java.util.regex.Pattern;

/** What README.md shows holds: each call has the answer named beside it, and no call, constant or test is left out. */
public final class ReadmeTest {
    private static final int MOST_CALLS = 512;
    private static final Path TESTS = Path.of("src/test/java");
    private static final Pattern NEW_OBJECT = Pattern.compile("PinLanes x = new PinLanes\\(\\);");
    private static final Pattern PAGE = Pattern.compile("for \\(char c : \"([^\"]*)\"\\.toCharArray\\(\\)\\) x\\.letter\\(c\\);");
    private static final Pattern CALL = Pattern.compile("x\\.(\\w+)\\(([^)]*)\\); +// (-?\\w+): .+");
    private static final Pattern TEST = Pattern.compile("`src/test/java/(\\w+\\.java)`");

    private static final Set<String> shown = new TreeSet<>();
    private static PinLanes x = null;
    private static int calls = 0;
    private static int asked = 0;
    private static int wrong = 0;

    public static void main(String[] args) throws Exception {
        String text = Files.readString(Path.of("README.md"));
        for (String line : javaLines(text)) {
            read(line);
        }
        everyCallIsShown();
        everyConstantIsShown();
        everyTestIsNamed(text);
        due("README.md names .ci/run", text.contains("`.ci/run`"), true);
        due(".ci/run can be run", Files.isExecutable(Path.of(".ci/run")), true);
        System.out.println("ReadmeTest: " + asked + " calls of README.md, " + wrong + " wrong");
        if (wrong != 0) {
            System.exit(1);
        }
    }

    private static void due(String what, Object got, Object want) {
        if (!got.equals(want)) {
            wrong++;
            System.out.println(what + " is " + got + ", due is " + want);
        }
    }

    private static List<String> javaLines(String text) {
        List<String> lines = new ArrayList<>();
        boolean inside = false;
        for (String line : text.split("\n")) {
            if (line.startsWith("```")) {
                inside = !inside && line.equals("```java");
            } else if (inside && !line.isBlank()) {
                lines.add(line);
            }
        }
        return lines;
    }

    private static void read(String line) throws Exception {
        Matcher page = PAGE.matcher(line);
        Matcher call = CALL.matcher(line);
        if (NEW_OBJECT.matcher(line).matches()) {
            x = new PinLanes();
            calls = 0;
        } else if (x != null && page.matches()) {
            write(page.group(1));
        } else if (x != null && call.matches()) {
            ask(line, call.group(1), call.group(2), call.group(3));
        } else {
            due("a line that is no call with its answer: " + line, false, true);
        }
        due("too many calls: " + line, calls > MOST_CALLS, false);
    }

    private static void write(String page) {
        for (char c : page.toCharArray()) {
            due("letter '" + c + "' is taken", x.letter(c) > 0, true);
            calls++;
        }
    }

    private static void ask(String line, String name, String arguments, String answer) throws Exception {
        String[] parts = arguments.isEmpty() ? new String[0] : arguments.split(", ");
        Class<?>[] types = new Class<?>[parts.length];
        Object[] values = new Object[parts.length];
        for (int i = 0; i < parts.length; i++) {
            types[i] = int.class;
            values[i] = number(parts[i]);
        }
        Number got = (Number) PinLanes.class.getMethod(name, types).invoke(x, values);
        due(line, got.longValue(), answerOf(answer));
        shown.add(name);
        shown.add(answer);
        calls++;
        asked++;
    }

    private static int number(String text) {
        return text.matches("'.'") ? text.charAt(1) : Integer.parseInt(text);
    }

    private static long answerOf(String text) throws Exception {
        return text.matches("[A-Z]+") ? PinLanes.class.getField(text).getInt(null) : Long.parseLong(text);
    }

    private static void everyCallIsShown() {
        for (Method method : PinLanes.class.getDeclaredMethods()) {
            if (Modifier.isPublic(method.getModifiers())) {
                due("README.md shows " + method.getName() + "()", shown.contains(method.getName()), true);
            }
        }
    }

    private static void everyConstantIsShown() {
        for (Field field : PinLanes.class.getFields()) {
            due("README.md shows " + field.getName(), shown.contains(field.getName()), true);
        }
    }

    private static void everyTestIsNamed(String text) throws IOException {
        Set<String> there = new TreeSet<>();
        try (DirectoryStream<Path> files = Files.newDirectoryStream(TESTS, "*.java")) {
            for (Path file : files) {
                there.add(file.getFileName().toString());
            }
        }
        Set<String> named = new TreeSet<>();
        Matcher matcher = TEST.matcher(text);
        while (matcher.find()) {
            named.add(matcher.group(1));
        }
        due("the tests that README.md names", named, there);
    }
}
