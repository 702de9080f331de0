import java.io.IOException;
import java.lang.reflect.Constructor;
import java.lang.reflect.Field;
import java.lang.reflect.Method;
import java.lang.reflect.Modifier;
import java.nio.file.Files;
import java.nio.file.Path;
import java.util.ArrayList;
import java.util.List;
import java.util.Random;
import java.util.Set;
import java.util.TreeSet;
import java.util.regex.Matcher;
import java.util.regex.Pattern;

/** The face and what can be seen of LANGUAGE.md, and calls with any arguments in any state. */
public final class FaceTest {
    private static final String FACE = "chosen count differ family feed judge look marry octet pack part person point points ran read write";

    public static void main(String[] args) throws IOException {
        members();
        shapes();
        source();
        lengths();
        names();
        for (int seed = 0; seed < 400; seed++) {
            anything(new Random(seed));
        }
        Kit.end();
    }

    private static void members() {
        TreeSet<String> shown = new TreeSet<>();
        TreeSet<String> hidden = new TreeSet<>();
        for (Method method : HeraldDesk.class.getDeclaredMethods()) {
            (Modifier.isPrivate(method.getModifiers()) ? hidden : shown).add(method.getName());
        }
        Kit.due("public methods", String.join(" ", shown), FACE);
        for (Class<?> inside : HeraldDesk.class.getDeclaredClasses()) {
            Kit.due(inside + " is static", Modifier.isStatic(inside.getModifiers()), true);
            Kit.due(inside + " has few fields", inside.getDeclaredFields().length <= 20, true);
            for (Method method : inside.getDeclaredMethods()) {
                hidden.add(method.getName());
            }
        }
        hidden.retainAll(shown);
        Kit.due("hidden methods with public names", hidden.toString(), "[]");
        Kit.due("classes", HeraldDesk.class.getDeclaredClasses().length <= 11, true);
        Constructor<?>[] constructors = HeraldDesk.class.getDeclaredConstructors();
        Kit.due("constructors", constructors.length, 1);
        for (Field field : HeraldDesk.class.getDeclaredFields()) {
            boolean known = Modifier.isPrivate(field.getModifiers()) || field.getName().equals("NONE");
            Kit.due(field + " is hidden", known, true);
            Kit.due(field + " is final if it is static", !Modifier.isStatic(field.getModifiers()) || Modifier.isFinal(field.getModifiers()), true);
        }
        Kit.due("final", Modifier.isFinal(HeraldDesk.class.getModifiers()), true);
    }

    private static List<Class<?>> classes() {
        List<Class<?>> all = new ArrayList<>(List.of(HeraldDesk.class.getDeclaredClasses()));
        all.add(HeraldDesk.class);
        return all;
    }

    /** Rules 3, 5 and 11: at most seven parameters, and static fields that are constants. */
    private static void shapes() {
        Set<Class<?>> constants = Set.of(int.class, long.class, boolean.class, char.class, String.class, int[].class, long[].class, char[].class, byte[].class);
        for (Class<?> one : classes()) {
            for (Method method : one.getDeclaredMethods()) {
                Kit.due(method + " takes few", method.getParameterCount() <= 7, true);
            }
            for (Constructor<?> constructor : one.getDeclaredConstructors()) {
                Kit.due(constructor + " takes few", constructor.getParameterCount() <= 7, true);
            }
            for (Field field : one.getDeclaredFields()) {
                boolean constant = Modifier.isFinal(field.getModifiers()) && constants.contains(field.getType());
                Kit.due(field + " is a constant if it is static", !Modifier.isStatic(field.getModifiers()) || constant, true);
            }
        }
    }

    /** The source without its comments and the insides of its texts. */
    private static String code() throws IOException {
        return Files.readString(Path.of("src/main/java/HeraldDesk.java")).replaceAll("(?s)/\\*.*?\\*/", "").replaceAll("\"[^\"]*\"", "\"\"");
    }

    /** Rule 11: a block that stands where methods stand has at most sixty lines. */
    private static void lengths() throws IOException {
        String[] lines = code().split("\n");
        for (int i = 0; i < lines.length; i++) {
            boolean opens = lines[i].matches(" {4}( {4})?\\S.*\\) \\{");
            String closing = opens ? lines[i].replaceAll("\\S.*", "}") : "";
            int end = i;
            while (opens && end < lines.length && !lines[end].equals(closing)) {
                end++;
            }
            Kit.due("lines from " + lines[i].trim(), end - i <= 60, true);
        }
    }

    /** Rule 4: no class of the library but String and Math (and none has to be made to join texts). */
    private static void names() throws IOException {
        TreeSet<String> known = new TreeSet<>(List.of("String", "Math"));
        for (Class<?> one : classes()) {
            known.add(one.getSimpleName());
        }
        Matcher name = Pattern.compile("\\b[A-Z]\\w*[a-z]\\w*\\b").matcher(code());
        TreeSet<String> used = new TreeSet<>();
        while (name.find()) {
            used.add(name.group());
        }
        used.removeAll(known);
        Kit.due("other names", used.toString(), "[]");
        Kit.due("joined texts", code().contains("\" +") || code().contains("+ \""), false);
    }

    private static void source() throws IOException {
        String code = code();
        for (String word : "throw try catch synchronized assert import package protected instanceof".split(" ")) {
            Kit.due("the word " + word, code.matches("(?s).*\\b" + word + "\\b.*"), false);
        }
        Kit.due("lambdas and references", code.contains("->") || code.contains("::"), false);
    }

    private static int number(Random random) {
        return switch (random.nextInt(6)) {
            case 0 -> random.nextInt();
            case 1 -> random.nextInt(270) - 10;
            case 2 -> random.nextInt(70) - 2;
            case 3 -> Kit.pick(random, "a", "b").equals("a") ? Integer.MIN_VALUE : Integer.MAX_VALUE;
            default -> random.nextInt(6) - 1;
        };
    }

    /** At most 512 calls of any kind; none may throw, and a second desk answers each the same. */
    private static void anything(Random random) {
        HeraldDesk one = new HeraldDesk();
        HeraldDesk other = new HeraldDesk();
        for (int calls = 0; calls <= 512 - 13; calls++) {
            int which = random.nextInt(20);
            int a = number(random);
            int b = number(random);
            int c = number(random);
            int d = number(random);
            String text = Kit.shield(random);
            if (which >= 17) {
                text = random.nextInt(3) > 0 ? text : "rule 0 for " + Kit.pick(random, Kit.KINDS) + ":next+" + random.nextInt(100) + ";";
                int length = random.nextInt(8) > 0 ? text.length() : random.nextInt(text.length());
                calls += (Math.min(text.length(), 240) + 19) / 20;
                Kit.due("the same", call(one, which, a, b, length, text), call(other, which, a, b, length, text));
            } else {
                Kit.due("the same", call(one, which, a, b, c, d), call(other, which, a, b, c, d));
            }
        }
    }

    private static int call(HeraldDesk desk, int which, int a, int b, int length, String text) {
        Kit.feed(desk, text.length() > 240 ? text.substring(0, 240) : text);
        return text.startsWith("rule") ? desk.pack(a & 3, length) : desk.read(length);
    }

    private static int call(HeraldDesk desk, int which, int a, int b, int c, int d) {
        return switch (which) {
            case 0 -> desk.feed(a, b, c, d, a ^ b);
            case 1 -> desk.read(a);
            case 2 -> desk.pack(a, b);
            case 3 -> desk.write(a);
            case 4 -> desk.octet(a);
            case 5 -> desk.look(a, b);
            case 6 -> desk.judge(a, b, c);
            case 7 -> desk.part(a, b, c, d);
            case 8 -> desk.chosen(a, b, c);
            case 9 -> desk.ran();
            case 10 -> desk.point(a, b, c);
            case 11 -> desk.points(a, b);
            case 12 -> desk.differ(a, b);
            case 13 -> desk.person((a & 1) == 0, b, c, d);
            case 14 -> desk.marry(a, b) ? 1 : 0;
            case 15 -> desk.family(a, b);
            default -> desk.count(a);
        };
    }
}
