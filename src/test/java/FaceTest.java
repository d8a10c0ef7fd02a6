import java.lang.reflect.Constructor;
import java.lang.reflect.Field;
import java.lang.reflect.Member;
import java.lang.reflect.Method;
import java.lang.reflect.Modifier;
import java.nio.file.Files;
import java.nio.file.Path;
import java.util.List;
import java.util.Set;
import java.util.TreeSet;
import java.util.regex.Matcher;
import java.util.regex.Pattern;

/** The public face is the document's and no more, and the source keeps to what of LANGUAGE.md a scan can see. */
public final class FaceTest {
    private static final String[] FACE = {
        "int letter(int)", "int blank()", "int fault()", "int green()", "int pin(int,int)", "int as(int,int)",
        "int lane(int,int)", "int falls(int,int)", "int strike(int,int)", "int set(int)", "int all()", "int ball(int)",
        "int rule()", "int change(int,int)", "int number()", "int wins()", "int best(int)", "int row(int)",
        "int period(int)", "int likely()", "int see(int,int,int)", "int forget()", "int games(int,int,int)",
        "int image()", "int restore()", "int count(int)", "long digest()",
    };
    private static final String[] CONSTANTS = {"NONE", "UNKNOWN", "OUTSIDE", "STATE", "FULL"};
    private static final String[] REFUSED = {
        "\\b(throw|throws|try|catch|synchronized|assert|import|package|protected|volatile|transient)\\b", "->", "::",
        "\\bstatic\\s*\\{", "\\b(System\\.(?!arraycopy)|Thread|Random|Float\\.|Double\\.|Character\\.|Object\\b)",
        "\\w+Exact\\b", "\\b(hashCode|toString)\\b", "\\bwhile \\(true\\)", "for \\(;;\\)",
    };
    private static int wrong = 0;

    private static void due(String what, Object got, Object want) {
        if (!got.equals(want)) {
            wrong++;
            System.out.println(what + " is " + got + ", due is " + want);
        }
    }

    public static void main(String[] args) throws Exception {
        methods();
        constants();
        constructors();
        limits();
        source(Files.readString(Path.of("src/main/java/PinLanes.java")));
        lengths(Files.readAllLines(Path.of("src/main/java/PinLanes.java")));
        System.out.println("FaceTest: " + wrong + " wrong");
        if (wrong != 0) {
            System.exit(1);
        }
    }

    private static void methods() {
        Set<String> open = new TreeSet<>();
        Set<String> openNames = new TreeSet<>();
        Set<String> hiddenNames = new TreeSet<>();
        for (Method method : PinLanes.class.getDeclaredMethods()) {
            if (Modifier.isPrivate(method.getModifiers()) || method.isSynthetic()) {
                hiddenNames.add(method.getName());
            } else {
                StringBuilder parameters = new StringBuilder();
                for (Class<?> type : method.getParameterTypes()) {
                    parameters.append(parameters.length() == 0 ? "" : ",").append(type.getName());
                }
                due(method.getName() + " public", Modifier.toString(method.getModifiers()), "public");
                open.add(method.getReturnType() + " " + method.getName() + "(" + parameters + ")");
                openNames.add(method.getName());
            }
        }
        due("the methods", open, new TreeSet<>(Set.of(FACE)));
        for (Class<?> inside : PinLanes.class.getDeclaredClasses()) {
            due(inside + " static", Modifier.isStatic(inside.getModifiers()), true);
            due(inside + " private", Modifier.isPrivate(inside.getModifiers()), true);
            for (Method method : inside.getDeclaredMethods()) {
                hiddenNames.add(method.getName());
            }
        }
        hiddenNames.retainAll(openNames);
        due("hidden methods with names of open ones", hiddenNames, new TreeSet<String>());
    }

    private static void constants() throws Exception {
        int[] values = {-1, -101, -102, -103, -104};
        Set<String> open = new TreeSet<>();
        for (Field field : PinLanes.class.getDeclaredFields()) {
            if (!isPrivate(field)) {
                open.add(Modifier.toString(field.getModifiers()) + " " + field.getType() + " " + field.getName());
            }
        }
        Set<String> due = new TreeSet<>();
        for (int i = 0; i < CONSTANTS.length; i++) {
            due.add("public static final int " + CONSTANTS[i]);
            due(CONSTANTS[i], PinLanes.class.getField(CONSTANTS[i]).getInt(null), values[i]);
        }
        due("the constants", open, due);
    }

    private static boolean isPrivate(Member member) {
        return Modifier.isPrivate(member.getModifiers());
    }

    private static void constructors() {
        Constructor<?>[] made = PinLanes.class.getDeclaredConstructors();
        due("constructors", made.length, 1);
        due("the constructor", made[0].toString(), "public PinLanes()");
        due("the class", Modifier.toString(PinLanes.class.getModifiers()), "public final");
    }

    /** What LANGUAGE.md's eleventh rule counts. */
    private static void limits() {
        due("at most twelve classes", PinLanes.class.getDeclaredClasses().length + 1 <= 12, true);
        limitsOf(PinLanes.class);
        for (Class<?> inside : PinLanes.class.getDeclaredClasses()) {
            limitsOf(inside);
        }
    }

    private static void limitsOf(Class<?> one) {
        int fields = 0;
        for (Field field : one.getDeclaredFields()) {
            boolean isStatic = Modifier.isStatic(field.getModifiers());
            due(field + " final, if it is static", !isStatic || Modifier.isFinal(field.getModifiers()), true);
            fields += isStatic ? 0 : 1;
        }
        due(one + " at most twenty fields", fields <= 20, true);
        for (Method method : one.getDeclaredMethods()) {
            due(method + " at most seven parameters", method.getParameterCount() <= 7, true);
        }
    }

    /** A method begins and ends at four blanks, or at eight inside a class. */
    private static void lengths(List<String> lines) {
        int methods = 0;
        for (int first = 0; first < lines.size(); first++) {
            Matcher head = Pattern.compile("( {4}| {8})[a-zA-Z].*\\) \\{").matcher(lines.get(first));
            if (head.matches() && !lines.get(first).matches(" +(if|for|while|switch) .*")) {
                int last = first;
                while (last < lines.size() && !lines.get(last).equals(head.group(1) + "}")) {
                    last++;
                }
                methods++;
                due(lines.get(first).trim() + " at most sixty lines", last - first + 1 <= 60, true);
            }
        }
        due("methods were found", methods > FACE.length, true);
    }

    private static void source(String text) {
        String code = text.replaceAll("(?s)/\\*.*?\\*/", "").replaceAll("//[^\n]*", "");
        for (String refused : REFUSED) {
            Matcher matcher = Pattern.compile(refused).matcher(code);
            due("in the source '" + refused + "'", matcher.find() ? matcher.group() : "", "");
        }
        due("signs above 126", text.chars().filter(c -> c > 126).count(), 0L);
        Matcher made = Pattern.compile("\\bnew (?!int\\[MOST|int\\[LONGEST|int\\[WAYS|char\\[MOST)\\w+[^;]*;").matcher(code);
        while (made.find()) {
            String line = code.substring(code.lastIndexOf('\n', made.start()) + 1, made.end());
            due("made outside a field: " + line.trim(), line.contains("private final ") || line.contains(" final "), true);
        }
    }
}
