import java.lang.reflect.Field;
import java.lang.reflect.Method;
import java.lang.reflect.Modifier;
import java.nio.file.Files;
import java.nio.file.Path;
import java.util.Arrays;
import java.util.Set;
import java.util.TreeSet;
import java.util.regex.Matcher;
import java.util.regex.Pattern;
import java.util.stream.Collectors;

/** The public face is what the document writes out: each member as it stands there, and none more. */
public final class FaceTest {
    private static final Pattern METHOD = Pattern.compile("public (\\w+) (\\w+)\\((.*?)\\)(?: throws (.*))?;");
    private static final int CALLS = 44;

    public static void main(String[] args) throws Exception {
        Set<String> due = dueMethods();
        Set<String> got = new TreeSet<>();
        for (Method m : HalfOaths.class.getDeclaredMethods()) {
            if (!Modifier.isPrivate(m.getModifiers()) && !m.isSynthetic()) {
                got.add(told(m));
            }
        }
        Due.same("calls of the document's face", due.size(), CALLS);
        Due.same("methods of the face", String.join("\n", got), String.join("\n", due));
        theClass();
        theConstructor();
        theConstant();
        Due.close("FaceTest");
    }

    private static Set<String> dueMethods() throws Exception {
        String document = Files.readString(Path.of("../shared/DOC.md"));
        int begin = document.indexOf("```java", document.indexOf("## The public face"));
        String block = document.substring(begin, document.indexOf("```", begin + 3));
        Set<String> due = new TreeSet<>();
        Matcher m = METHOD.matcher(block);
        while (m.find()) {
            String types = m.group(3).replaceAll("(\\w+) \\w+", "$1");
            String exceptions = m.group(4) == null ? "" : m.group(4);
            due.add("public " + m.group(1) + " " + m.group(2) + "(" + types + ") throws " + exceptions);
        }
        return due;
    }

    private static String told(Method m) {
        return Modifier.toString(m.getModifiers()) + " " + m.getReturnType().getSimpleName() + " " + m.getName()
            + "(" + names(m.getParameterTypes()) + ") throws " + names(m.getExceptionTypes());
    }

    private static String names(Class<?>[] types) {
        return Arrays.stream(types).map(Class::getSimpleName).collect(Collectors.joining(", "));
    }

    private static void theClass() {
        Due.same("modifiers of the class", Modifier.toString(HalfOaths.class.getModifiers()), "public final");
        Due.same("the class above it", HalfOaths.class.getSuperclass() == Object.class, true);
        Due.same("its interfaces", HalfOaths.class.getInterfaces().length, 0);
        Due.same("its package", HalfOaths.class.getPackageName(), "");
    }

    private static void theConstructor() {
        Due.same("constructors", HalfOaths.class.getDeclaredConstructors().length, 1);
        Due.same("public ones", HalfOaths.class.getConstructors().length, 1);
        Due.same("what it takes and throws", Arrays.stream(HalfOaths.class.getConstructors())
            .mapToInt(c -> c.getParameterCount() + c.getExceptionTypes().length).sum(), 0);
    }

    private static void theConstant() throws Exception {
        Set<String> seen = new TreeSet<>();
        for (Field f : HalfOaths.class.getDeclaredFields()) {
            if (!Modifier.isPrivate(f.getModifiers()) && !f.isSynthetic()) {
                seen.add(Modifier.toString(f.getModifiers()) + " " + f.getType().getSimpleName() + " " + f.getName());
            }
        }
        Due.same("constants of the face", String.join("\n", seen), "public static final int NONE");
        Due.same("NONE", HalfOaths.NONE, -1);
    }
}
