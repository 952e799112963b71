import java.io.IOException;
import java.lang.reflect.Constructor;
import java.lang.reflect.Field;
import java.lang.reflect.Method;
import java.lang.reflect.Modifier;
import java.nio.file.Files;
import java.nio.file.Path;
import java.util.Set;
import java.util.TreeSet;
import java.util.regex.Matcher;
import java.util.regex.Pattern;

/** Rules of LANGUAGE.md that show in the face of the class or in its text. */
public final class LanguageTest {
    private static final Set<String> FACE = Set.of(
            "int append(int,int,int,int,int)", "int load(int)", "int errorOffset()", "int state(int)",
            "int paragraph(int,int)", "int word(int,int)", "int lineLength(int,int,int)", "int plan(boolean,int)",
            "int page(boolean,int,int)", "int pageOf(boolean,int,int)", "int help(int)", "int saved()",
            "float fullness()", "int fix(int,int)", "boolean begin(int,boolean)", "int insert(int,int,int)",
            "int remove(int)", "int retouch(int,int,int)", "int setCost(int,int)", "int undo()", "long checksum()");
    private static final String[] FORBIDDEN = {"->", "::", "\\bcatch\\b", "\\btry\\b", "\\bfinally\\b",
        "\\bsynchronized\\b", "\\bassert\\b", "\\bException\\b", "\\bThrowable\\b", "Exact\\b", "\\bString\\.",
        "\\bSystem\\b", "\\bdouble\\b", "\\bvolatile\\b", "\\bnative\\b", "\\bwhile \\(true\\)", "\\bfor \\(;;\\)",
        "^package ", "^import (?!java\\.util\\.NoSuchElementException;)", "static \\{", "\" \\+", "\\+ \""};
    private static int wrong = 0;

    public static void main(String[] args) throws IOException {
        face();
        classes();
        text(Files.readString(Path.of("src/main/java/WidowWatch.java")));
        System.out.println(wrong == 0 ? "the rules looked at are kept" : wrong + " rules are broken");
        if (wrong != 0) {
            System.exit(1);
        }
    }

    private static void face() {
        Set<String> shown = new TreeSet<>();
        Set<String> names = new TreeSet<>();
        for (String told : FACE) {
            names.add(told.replaceAll(".* |\\(.*", ""));
        }
        for (Method method : WidowWatch.class.getDeclaredMethods()) {
            if (Modifier.isPrivate(method.getModifiers())) {
                check(!names.contains(method.getName()), "1: private " + method.getName());
            } else {
                check(Modifier.isPublic(method.getModifiers()), "1: " + method);
                shown.add(method.getReturnType() + " " + method.getName() + "("
                        + String.join(",", java.util.Arrays.stream(method.getParameterTypes())
                                .map(Class::getName).toList()) + ")");
            }
        }
        check(shown.equals(new TreeSet<>(FACE)), "1: the methods are " + shown);
        Set<String> constants = new TreeSet<>();
        for (Field field : WidowWatch.class.getDeclaredFields()) {
            if (!Modifier.isPrivate(field.getModifiers())) {
                constants.add(field.getName());
            }
        }
        check(constants.equals(Set.of("SYNTAX_ERROR", "OUT_OF_RANGE", "TOO_MANY")), "1: constants " + constants);
        Constructor<?>[] constructors = WidowWatch.class.getDeclaredConstructors();
        check(constructors.length == 1 && Modifier.isPublic(constructors[0].getModifiers()), "1: the constructor");
        check(Modifier.isFinal(WidowWatch.class.getModifiers()), "1: final");
    }

    private static void classes() {
        Class<?>[] nested = WidowWatch.class.getDeclaredClasses();
        check(nested.length <= 11, "11: classes");
        oneClass(WidowWatch.class);
        for (Class<?> one : nested) {
            check(Modifier.isStatic(one.getModifiers()), "1: " + one + " is not static");
            oneClass(one);
        }
    }

    private static void oneClass(Class<?> one) {
        int fields = 0;
        for (Field field : one.getDeclaredFields()) {
            boolean isStatic = Modifier.isStatic(field.getModifiers());
            fields += isStatic ? 0 : 1;
            check(!isStatic || Modifier.isFinal(field.getModifiers()), "5: " + field);
        }
        check(fields <= 20, "11: the fields of " + one);
        for (Method method : one.getDeclaredMethods()) {
            check(method.getParameterCount() <= 7, "11: the parameters of " + method);
        }
    }

    private static void methodLengths(String code) {
        Matcher block = Pattern.compile("(?ms)^( {4}| {8})(\\w[^\n;=]*\\([^{;]*\\{)$.*?^\\1\\}$").matcher(code);
        int methods = 0;
        for (int at = 0; block.find(at); at = block.start() + 1) {
            methods++;
            check(block.group().lines().count() <= 60, "11: the length of " + block.group(2));
        }
        check(methods > 80, "11: the methods that are found in the text are " + methods);
    }

    private static void text(String text) {
        String code = text.replaceAll("(?s)/\\*.*?\\*/", "").replaceAll("//.*", "");
        for (String pattern : FORBIDDEN) {
            Matcher matcher = Pattern.compile(pattern, Pattern.MULTILINE).matcher(code);
            check(!matcher.find(), pattern + " stands in the text");
        }
        // An index stands only behind its test: in the functions that do nothing else, and where books are kept.
        Matcher index = Pattern.compile("\\w+\\[[a-z]\\w*\\]").matcher(code);
        Set<String> indexed = new TreeSet<>();
        while (index.find()) {
            indexed.add(index.group());
        }
        check(indexed.equals(Set.of("row[index]", "from[i]", "to[i]", "books[i]", "books[index]")),
                "7: indexes " + indexed);
        methodLengths(code);
    }

    private static void check(boolean isKept, String rule) {
        if (!isKept) {
            wrong++;
            System.out.println("rule " + rule);
        }
    }
}
