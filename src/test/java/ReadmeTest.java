import java.io.IOException;
import java.lang.reflect.InvocationTargetException;
import java.lang.reflect.Method;
import java.lang.reflect.Modifier;
import java.nio.file.Files;
import java.nio.file.Path;
import java.util.ArrayList;
import java.util.HashMap;
import java.util.List;
import java.util.Map;
import java.util.TreeSet;
import java.util.regex.Matcher;
import java.util.regex.Pattern;

/** The calls that README.md shows are made as they stand there, and answer what stands behind them. */
public final class ReadmeTest {
    private static final Pattern BLOCK = Pattern.compile("(?s)```java\n(.*?)```");
    private static final Pattern CALL = Pattern.compile("(?:(int|boolean) (\\w+) = )?desk\\.(\\w+)\\((.*)\\);\\s+// (-?\\d+|true|false)(?![\\w-]).*");
    private static final Pattern TEXT = Pattern.compile("feed\\(desk, \"([^\"]*)\"\\);");

    private static final HeraldDesk DESK = new HeraldDesk();
    private static final Map<String, Object> NAMES = new HashMap<>(Map.of("HeraldDesk.NONE", HeraldDesk.NONE, "true", true, "false", false));
    private static final TreeSet<String> SHOWN = new TreeSet<>();

    public static void main(String[] args) throws IOException, ReflectiveOperationException {
        List<String> blocks = blocks();
        Kit.due("the first line", blocks.get(0).lines().findFirst().orElse(""), "HeraldDesk desk = new HeraldDesk();");
        for (String block : blocks) {
            if (block.startsWith("static ")) {
                helper(block);
            } else {
                for (String line : block.lines().toList()) {
                    make(line);
                }
            }
        }
        everyCallIsShown();
        files();
        Kit.end();
    }

    private static List<String> blocks() throws IOException {
        List<String> blocks = new ArrayList<>();
        Matcher matcher = BLOCK.matcher(Files.readString(Path.of("README.md")));
        while (matcher.find()) {
            blocks.add(matcher.group(1));
        }
        return blocks;
    }

    private static void make(String line) throws ReflectiveOperationException {
        Matcher text = TEXT.matcher(line);
        Matcher call = CALL.matcher(line);
        if (text.matches()) {
            Kit.feed(DESK, text.group(1));
        } else if (call.matches()) {
            Object answer = answer(call.group(3), call.group(4).isEmpty() ? new String[0] : call.group(4).split(", "));
            Kit.due(line, answer.toString(), call.group(5));
            if (call.group(2) != null) {
                Kit.due("the type of " + call.group(2), answer instanceof Integer ? "int" : "boolean", call.group(1));
                NAMES.put(call.group(2), answer);
            }
        } else {
            Kit.due("a line that is no call with an answer", line, "HeraldDesk desk = new HeraldDesk();");
        }
    }

    private static Object answer(String name, String[] shown) throws ReflectiveOperationException {
        SHOWN.add(name);
        Object[] values = new Object[shown.length];
        for (int i = 0; i < shown.length; i++) {
            values[i] = value(shown[i]);
        }
        for (Method method : HeraldDesk.class.getMethods()) {
            if (method.getName().equals(name)) {
                try {
                    return method.invoke(DESK, values);
                } catch (InvocationTargetException thrown) {
                    return "thrown: " + thrown.getCause();
                }
            }
        }
        return "no such call";
    }

    /** A name, a number, or a sum of two numbers. */
    private static Object value(String shown) {
        if (NAMES.containsKey(shown)) {
            return NAMES.get(shown);
        }
        int sum = 0;
        for (String number : shown.split(" \\+ ")) {
            sum += Integer.decode(number);
        }
        return sum;
    }

    /** The helper is the one that the tests use themselves. */
    private static void helper(String block) throws IOException {
        Kit.due("the helper", Files.readString(Path.of("src/test/java/Kit.java")).contains(block.indent(4)), true);
    }

    private static void everyCallIsShown() {
        TreeSet<String> all = new TreeSet<>();
        for (Method method : HeraldDesk.class.getDeclaredMethods()) {
            if (Modifier.isPublic(method.getModifiers())) {
                all.add(method.getName());
            }
        }
        Kit.due("calls shown", SHOWN.toString(), all.toString());
    }

    /** The files and tests that README.md names are there, and every test is named. */
    private static void files() throws IOException {
        String readme = Files.readString(Path.of("README.md"));
        Matcher path = Pattern.compile("`((?:\\.\\./shared|src|\\.ci)[\\w./]*)`").matcher(readme);
        while (path.find()) {
            Kit.due(path.group(1) + " is there", Files.exists(Path.of(path.group(1))), true);
        }
        TreeSet<String> named = new TreeSet<>();
        Matcher test = Pattern.compile("`(\\w+Test)`").matcher(readme);
        while (test.find()) {
            named.add(test.group(1) + ".java");
        }
        named.remove("EdgesTest.java");
        TreeSet<String> there = new TreeSet<>();
        for (String name : Path.of("src/test/java").toFile().list()) {
            if (name.endsWith("Test.java")) {
                there.add(name);
            }
        }
        Kit.due("tests named", named.toString(), there.toString());
    }
}
