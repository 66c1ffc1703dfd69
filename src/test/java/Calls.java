import java.io.IOException;
import java.io.UncheckedIOException;
import java.lang.reflect.InvocationTargetException;
import java.lang.reflect.Method;
import java.lang.reflect.Modifier;
import java.nio.file.Files;
import java.nio.file.Path;
import java.util.HashMap;
import java.util.Map;
import java.util.TreeMap;
import java.util.regex.Matcher;
import java.util.regex.Pattern;

/**
 * Runs of calls on new objects. A run is a text of calls with the answers that are due, such as
 * "reset(0,2)=1 relate(0,0,1)=1"; write(p|~p) appends the characters one by one and has no answer.
 * A number is written as such, as MIN, MAX or NOTHING, or as a constant's name in the document.
 */
final class Calls {
    static final Path DOCUMENT = Path.of("../shared/DOC.md");

    private static final Pattern CALL = Pattern.compile("(\\w+)\\(([^ ]*)\\)(?:=(-?\\w+))?");
    private static final Pattern CONSTANT = Pattern.compile("- `(\\w+) = (-?\\d+)`: ");
    private static final Map<String, Method> METHODS = methods();
    private static final Map<String, Long> NUMBERS = numbers();

    private static int wrong = 0;
    private static int calls = 0;

    private Calls() {
    }

    /** The public methods, in the order of their names, so that every run of a test is the same. */
    static Map<String, Method> methods() {
        Map<String, Method> found = new TreeMap<>();
        for (Method method : ImplicationAlgebras.class.getDeclaredMethods()) {
            if (Modifier.isPublic(method.getModifiers())) {
                found.put(method.getName(), method);
            }
        }
        return found;
    }

    static String document() {
        try {
            return Files.readString(DOCUMENT);
        } catch (IOException unreadable) {
            throw new UncheckedIOException(unreadable);
        }
    }

    /** The constants come from the document, not from the class, which might have them wrong. */
    private static Map<String, Long> numbers() {
        Map<String, Long> found = new HashMap<>();
        found.put("MIN", (long) Integer.MIN_VALUE);
        found.put("MAX", (long) Integer.MAX_VALUE);
        found.put("NOTHING", Long.MIN_VALUE);
        Matcher constant = CONSTANT.matcher(document());
        while (constant.find()) {
            found.put(constant.group(1), Long.parseLong(constant.group(2)));
        }
        return found;
    }

    static long number(String text) {
        Long named = NUMBERS.get(text);
        return named == null ? Long.parseLong(text) : named;
    }

    static long answer(ImplicationAlgebras bench, String name, int... list) {
        Method method = METHODS.get(name);
        if (method == null || method.getParameterCount() != list.length) {
            throw new IllegalArgumentException("no such method: " + name);
        }
        Object[] arguments = new Object[list.length];
        for (int i = 0; i < list.length; i++) {
            arguments[i] = list[i];
        }
        try {
            return ((Number) method.invoke(bench, arguments)).longValue();
        } catch (InvocationTargetException | IllegalAccessException thrown) {
            throw new IllegalStateException(name + " threw", thrown);
        }
    }

    static void run(String title, String... lines) {
        ImplicationAlgebras bench = new ImplicationAlgebras();
        int made = 0;
        for (String line : lines) {
            for (String part : line.trim().split(" +")) {
                made += call(title, bench, part);
            }
        }
        if (made > 512) {
            throw new IllegalArgumentException(title + ": an object is used for at most 512 calls");
        }
    }

    /** Returns how many calls were made. */
    private static int call(String title, ImplicationAlgebras bench, String part) {
        Matcher call = CALL.matcher(part);
        if (!call.matches()) {
            throw new IllegalArgumentException(title + ": unreadable " + part);
        }
        if (call.group(1).equals("write")) {
            char[] text = call.group(2).toCharArray();
            for (char c : text) {
                bench.append(c);
            }
            return text.length;
        }
        if (call.group(3) == null) {
            throw new IllegalArgumentException(title + ": no answer is due for " + part);
        }
        due(title, part, answer(bench, call.group(1), arguments(call.group(2))), number(call.group(3)));
        return 1;
    }

    private static int[] arguments(String list) {
        String[] parts = list.isEmpty() ? new String[0] : list.split(",");
        int[] arguments = new int[parts.length];
        for (int i = 0; i < parts.length; i++) {
            arguments[i] = (int) number(parts[i]);
        }
        return arguments;
    }

    static void due(String title, String call, long got, long want) {
        calls++;
        if (got != want) {
            wrong++;
            System.out.println(title + ": " + call + " answered " + got + ", due is " + want);
        }
    }

    static void expect(boolean holds, String what) {
        if (!holds) {
            wrong++;
            System.out.println(what);
        }
    }

    static void end() {
        System.out.println(wrong == 0 ? calls + " calls answered as due" : wrong + " answers are not as due");
        if (wrong != 0) {
            System.exit(1);
        }
    }
}
