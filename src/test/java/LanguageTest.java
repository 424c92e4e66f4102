import java.lang.reflect.Executable;
import java.lang.reflect.Field;
import java.lang.reflect.Method;
import java.lang.reflect.Modifier;
import java.nio.charset.StandardCharsets;
import java.nio.file.Files;
import java.nio.file.Path;
import java.util.ArrayList;
import java.util.Arrays;
import java.util.List;
import java.util.Set;
import java.util.TreeSet;
import java.util.regex.Matcher;
import java.util.regex.Pattern;
import java.util.stream.Collectors;
import java.util.stream.Stream;

/** Rules of LANGUAGE.md that can be seen in the source of the class, or in the class as it is compiled. */
public final class LanguageTest {
    private static final int MOST_CLASSES = 12;
    private static final int MOST_FIELDS = 20;
    private static final int MOST_PARAMETERS = 7;
    private static final int MOST_LINES = 60;
    private static final Set<String> STATIC_TYPES = Set.of("int", "long", "boolean", "char", "String", "int[]", "long[]", "char[]", "byte[]", "Sign[]");
    private static final Set<String> EXCEPTIONS = Set.of("IllegalStateException", "IllegalArgumentException",
        "IndexOutOfBoundsException", "ArithmeticException", "UnsupportedOperationException", "NoSuchElementException", "RuntimeException");
    private static final String CODE = withoutTexts(source());

    public static void main(String[] args) {
        nothingElseIsUsed();
        onlyListedExceptionsAreThrown();
        onlyListedFunctionsAreCalled();
        methodsAreShort();
        classesInside();
        for (Class<?> c : classes()) {
            members(c);
        }
        noPrivateMethodIsNamedAsAPublicOne();
        Due.close("LanguageTest");
    }

    private static String source() {
        try {
            return Files.readString(Path.of("src/main/java/HalfOaths.java"), StandardCharsets.US_ASCII);
        } catch (java.io.IOException e) {
            throw new IllegalStateException("the source cannot be read as signs 1 to 127", e);
        }
    }

    /** The source without comments, and with written texts and signs left empty. */
    private static String withoutTexts(String all) {
        return all.replaceAll("(?s)/\\*.*?\\*/", "").replaceAll("\"(\\\\.|[^\"\\\\])*\"", "\"\"")
            .replaceAll("'(\\\\.|[^'\\\\])'", "' '").replaceAll("//.*", "");
    }

    private static List<String> found(String pattern) {
        List<String> all = new ArrayList<>();
        Matcher m = Pattern.compile(pattern).matcher(CODE);
        while (m.find()) {
            all.add(m.group(m.groupCount()));
        }
        return all;
    }

    private static void absent(String rule, String pattern) {
        Due.same(rule, String.join(" ", found(pattern)), "");
    }

    private static void nothingElseIsUsed() {
        absent("package lines", "(?m)^package .*");
        Due.same("imports", String.join(" ", found("(?m)^import (.*);")), "java.util.NoSuchElementException");
        absent("words that are ruled out", "\\b(synchronized|assert|finally|catch|try|protected|volatile|native|transient|goto|hashCode|getMessage)\\b");
        absent("lambdas and method references", "->|::");
        absent("static initialisers", "static\\s*\\{");
        absent("texts that are joined by a plus", "\"\"\\s*\\+|\\+\\s*\"\"");
        absent("types that are ruled out", "\\b(HashMap|Map|Set|Object|Thread|Random|File|Scanner|Optional|Stream|Iterator)\\b");
        absent("instanceof and casts", "\\binstanceof\\b|\\([A-Z]\\w*\\)\\s*\\w");
    }

    private static void onlyListedExceptionsAreThrown() {
        Due.same("throws that make nothing", found("\\bthrow (?!new )").size(), 0);
        for (String name : found("\\bthrow new (\\w+)\\(")) {
            Due.same("thrown " + name, EXCEPTIONS.contains(name), true);
        }
    }

    private static void onlyListedFunctionsAreCalled() {
        Set<String> called = new TreeSet<>(found("\\b((?:System|Arrays|Integer|Long|Math|String|Character|Objects)\\.\\w+)"));
        Due.same("functions of the library", String.join(" ", called), "Integer.bitCount Math.max Math.min System.arraycopy");
    }

    private static void methodsAreShort() {
        Matcher m = Pattern.compile("(?m)^( {4}| {8})\\w[^;={}]*\\)[^;={}]*\\{\\n(?s:.*?)^\\1\\}$").matcher(CODE);
        int methods = 0;
        while (m.find()) {
            methods++;
            String method = m.group().trim();
            String name = method.substring(0, method.indexOf('('));
            Due.same("short is " + name, method.lines().count() <= MOST_LINES, true);
            boolean makes = Pattern.compile("(?<!throw )\\bnew ").matcher(method).find();
            boolean isConstructor = name.matches("(public )?[A-Z]\\w*");
            Due.same("objects are made by " + name, makes && !isConstructor, false);
        }
        Due.same("all methods were looked at", methods >= methods().size(), true);
    }

    private static List<Method> methods() {
        return Arrays.stream(classes()).map(Class::getDeclaredMethods).flatMap(Arrays::stream)
            .filter(m -> !m.isSynthetic() && !isMadeByJava(m)).toList();
    }

    private static boolean isMadeByJava(Method m) {
        return m.getDeclaringClass().isEnum() && (m.getName().equals("values") || m.getName().equals("valueOf"));
    }

    private static Class<?>[] classes() {
        return Stream.concat(Stream.of(HalfOaths.class), Arrays.stream(HalfOaths.class.getDeclaredClasses())).toArray(Class<?>[]::new);
    }

    private static void classesInside() {
        Due.same("classes are few enough", classes().length <= MOST_CLASSES, true);
        for (Class<?> c : HalfOaths.class.getDeclaredClasses()) {
            int modifiers = c.getModifiers();
            Due.same(c + " is static", Modifier.isStatic(modifiers), true);
            Due.same(c + " is not public", Modifier.isPublic(modifiers) || Modifier.isProtected(modifiers), false);
            Due.same(c + " holds no more classes", c.getDeclaredClasses().length, 0);
        }
    }

    private static void members(Class<?> c) {
        int fields = 0;
        for (Field f : c.getDeclaredFields()) {
            if (f.isSynthetic() || f.isEnumConstant()) {
                continue;
            }
            if (Modifier.isStatic(f.getModifiers())) {
                Due.same(f + " is final", Modifier.isFinal(f.getModifiers()), true);
                Due.same(f + " may be static", STATIC_TYPES.contains(f.getType().getSimpleName()), true);
            } else {
                fields++;
            }
        }
        Due.same(c + " has few enough fields", fields <= MOST_FIELDS, true);
        Stream.of(c.getDeclaredMethods(), c.getDeclaredConstructors()).<Executable>flatMap(Arrays::stream)
            .filter(e -> !e.isSynthetic())
            .forEach(e -> Due.same(e + " takes few enough parameters", e.getParameterCount() <= MOST_PARAMETERS, true));
    }

    private static void noPrivateMethodIsNamedAsAPublicOne() {
        Set<String> open = Arrays.stream(HalfOaths.class.getMethods()).map(Method::getName).collect(Collectors.toSet());
        for (Method m : methods()) {
            if (!Modifier.isPublic(m.getModifiers())) {
                Due.same(m + " has a public one's name", open.contains(m.getName()), false);
            }
        }
    }
}
