import java.io.IOException;
import java.lang.reflect.Constructor;
import java.lang.reflect.Field;
import java.lang.reflect.Method;
import java.lang.reflect.Modifier;
import java.nio.file.Files;
import java.nio.file.Path;
import java.util.ArrayList;
import java.util.List;
import java.util.Set;
import java.util.TreeSet;
import java.util.regex.Matcher;
import java.util.regex.Pattern;

/** The face of the class as the document has it, and those rules of LANGUAGE.md that can be looked up. */
public final class LanguageTest {
    private static final Path SOURCE = Path.of("src/main/java/ImplicationAlgebras.java");
    private static final Path DOCUMENT = Path.of("../shared/DOC.md");

    private static int wrong = 0;

    public static void main(String[] args) throws IOException, IllegalAccessException {
        faceIsTheDocuments();
        nothingElseIsVisible();
        nestedClassesAreStatic();
        staticFieldsAreConstants();
        noNameIsUsedTwice();
        forbiddenWords(code());
        onlyListedLibrary(code());
        methodsAreShort();
        System.out.println(wrong == 0 ? "the rules are kept" : wrong + " rules are broken");
        if (wrong != 0) {
            System.exit(1);
        }
    }

    private static void expect(boolean holds, String rule) {
        if (!holds) {
            wrong++;
            System.out.println("broken: " + rule);
        }
    }

    private static void faceIsTheDocuments() throws IOException, IllegalAccessException {
        String document = Files.readString(DOCUMENT);
        int begin = document.indexOf("```java");
        String face = document.substring(begin, document.indexOf("```", begin + 3));
        Set<String> due = new TreeSet<>();
        Matcher constant = Pattern.compile("public static final int (\\w+) = (-?\\d+);").matcher(face);
        while (constant.find()) {
            due.add(constant.group(1) + " = " + constant.group(2));
        }
        Matcher method = Pattern.compile("public (int|long) (\\w+)\\(([^)]*)\\);").matcher(face);
        while (method.find()) {
            String types = method.group(3).replaceAll("(\\w+) \\w+", "$1").replace(" ", "");
            due.add(method.group(1) + " " + method.group(2) + "(" + types + ")");
        }
        Set<String> there = new TreeSet<>();
        for (Field field : ImplicationAlgebras.class.getDeclaredFields()) {
            if (Modifier.isPublic(field.getModifiers())) {
                there.add(field.getName() + " = " + field.getInt(null));
            }
        }
        for (Method declared : ImplicationAlgebras.class.getDeclaredMethods()) {
            if (Modifier.isPublic(declared.getModifiers())) {
                List<String> types = new ArrayList<>();
                for (Class<?> type : declared.getParameterTypes()) {
                    types.add(type.getName());
                }
                there.add(declared.getReturnType() + " " + declared.getName() + "(" + String.join(",", types) + ")");
            }
        }
        expect(due.size() == 55, "the document has 11 constants and 44 methods, found " + due.size());
        expect(due.equals(there), "rule 1: the face is " + there);
    }

    private static void nothingElseIsVisible() {
        int modifiers = ImplicationAlgebras.class.getModifiers();
        expect(Modifier.isPublic(modifiers) && Modifier.isFinal(modifiers), "rule 1: the class is public and final");
        for (Field field : ImplicationAlgebras.class.getDeclaredFields()) {
            expect(Modifier.isPublic(field.getModifiers()) || Modifier.isPrivate(field.getModifiers()),
                    "rule 1: the field " + field.getName());
        }
        for (Method method : ImplicationAlgebras.class.getDeclaredMethods()) {
            expect(Modifier.isPublic(method.getModifiers()) || Modifier.isPrivate(method.getModifiers()),
                    "rule 1: the method " + method.getName());
        }
        Constructor<?>[] constructors = ImplicationAlgebras.class.getDeclaredConstructors();
        expect(constructors.length == 1 && Modifier.isPublic(constructors[0].getModifiers()), "rule 1: one constructor");
    }

    private static void nestedClassesAreStatic() {
        Class<?>[] classes = ImplicationAlgebras.class.getDeclaredClasses();
        expect(classes.length <= 11, "rule 11: some twelve classes");
        for (Class<?> nested : classes) {
            expect(Modifier.isStatic(nested.getModifiers()), "rule 2: " + nested.getName() + " is static");
            expect(nested.getDeclaredClasses().length == 0, "rule 2: no class inside " + nested.getName());
            expect(instanceFields(nested) <= 20, "rule 11: the fields of " + nested.getName());
        }
        expect(instanceFields(ImplicationAlgebras.class) <= 20, "rule 11: the fields of the class");
    }

    private static int instanceFields(Class<?> type) {
        int count = 0;
        for (Field field : type.getDeclaredFields()) {
            count += Modifier.isStatic(field.getModifiers()) ? 0 : 1;
        }
        return count;
    }

    private static void staticFieldsAreConstants() {
        List<Class<?>> classes = new ArrayList<>(List.of(ImplicationAlgebras.class.getDeclaredClasses()));
        classes.add(ImplicationAlgebras.class);
        for (Class<?> type : classes) {
            for (Field field : type.getDeclaredFields()) {
                if (Modifier.isStatic(field.getModifiers())) {
                    boolean isNumber = field.getType() == int.class || field.getType() == long.class;
                    expect(Modifier.isFinal(field.getModifiers()) && isNumber,
                            "rule 5: the static field " + field.getName());
                }
            }
        }
    }

    private static void noNameIsUsedTwice() {
        Set<String> open = new TreeSet<>();
        for (Method method : ImplicationAlgebras.class.getDeclaredMethods()) {
            if (Modifier.isPublic(method.getModifiers())) {
                expect(open.add(method.getName()), "rule 1: one method is named " + method.getName());
            }
        }
        List<Class<?>> classes = new ArrayList<>(List.of(ImplicationAlgebras.class.getDeclaredClasses()));
        classes.add(ImplicationAlgebras.class);
        for (Class<?> type : classes) {
            for (Method method : type.getDeclaredMethods()) {
                expect(method.getParameterCount() <= 7, "rule 11: the parameters of " + method.getName());
                expect(type == ImplicationAlgebras.class && Modifier.isPublic(method.getModifiers())
                        || !open.contains(method.getName()), "rule 1: a private method is named " + method.getName());
            }
        }
    }

    /** The source without comments and without quoted characters. */
    private static String code() throws IOException {
        return Files.readString(SOURCE).replaceAll("(?s)/\\*.*?\\*/", "").replaceAll("//[^\\n]*", "")
                .replaceAll("'[^']*'", "' '");
    }

    private static void forbiddenWords(String code) {
        String[] words = {"throw", "throws", "try", "catch", "finally", "synchronized", "assert", "package", "import",
            "double", "float", "Object", "equals", "hashCode", "toString", "protected", "volatile", "native", "goto",
            "new int\\[[^\\]]*\\]\\[", "while \\(true\\)", "for \\(;;\\)", "->", "::", "@\\w+", "\""};
        for (String word : words) {
            String pattern = Character.isLetter(word.charAt(0)) && word.matches("\\w+") ? "\\b" + word + "\\b" : word;
            expect(!Pattern.compile(pattern).matcher(code).find(), "the source has " + word);
        }
    }

    private static void onlyListedLibrary(String code) {
        Set<String> allowed = Set.of("Integer.bitCount", "Math.max", "Math.min", "System.arraycopy");
        Matcher use = Pattern.compile("\\b(Integer|Long|Math|System|Arrays|String|Character|java)\\.(\\w+)").matcher(code);
        while (use.find()) {
            expect(allowed.contains(use.group()), "rule 4: the source uses " + use.group());
        }
    }

    private static void methodsAreShort() throws IOException {
        Pattern head = Pattern.compile("( {4}| {8})[\\w][^=;]*\\) \\{");
        List<String> lines = Files.readAllLines(SOURCE);
        for (int i = 0; i < lines.size(); i++) {
            Matcher matcher = head.matcher(lines.get(i));
            if (matcher.matches() && !lines.get(i).trim().matches("(if|for|while|switch|\\}).*")) {
                int end = i;
                while (end < lines.size() && !lines.get(end).equals(matcher.group(1) + "}")) {
                    end++;
                }
                expect(end - i < 60, "rule 11: a long method at line " + (i + 1));
            }
        }
    }
}
