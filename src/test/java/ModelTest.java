import java.lang.reflect.InvocationTargetException;
import java.lang.reflect.Method;
import java.nio.charset.StandardCharsets;
import java.util.Arrays;
import java.util.Comparator;
import java.util.HashMap;
import java.util.Map;
import java.util.Random;

/** Runs of up to 512 calls of all promises, drawn from fixed seeds: the class answers and throws as the model does. */
public final class ModelTest {
    private static final int RUNS = 1500;
    private static final int CALLS = 512;
    private static final String[] WORDS = {"give", "go", "wed", "sum", "if", "not", "by", "to"};
    private static final String[] PARTS = {"person", "verb", "sum", "ifs", "by", "tos", "count"};
    private static final String[] READERS = {"hills", "law", "whose", "likely", "ask", "coughs", "first"};

    private final Random random;
    private final int run;
    private final HalfOaths x = new HalfOaths();
    private final Model model = new Model();
    private int calls = 1;
    private static int wrong = 0;
    private static final Map<String, Integer> ANSWERED = new HashMap<>();
    private static final Map<String, Integer> THROWN = new HashMap<>();
    private static final Method[] FACE = face();

    private ModelTest(int run) {
        this.run = run;
        random = new Random(run);
    }

    public static void main(String[] args) throws Exception {
        for (int run = 0; run < RUNS; run++) {
            new ModelTest(run).run();
            if (wrong > 0) {
                System.exit(1);
            }
        }
        for (Method m : FACE) {
            boolean mayThrow = m.getExceptionTypes().length > 0;
            if (ANSWERED.getOrDefault(m.getName(), 0) < 100 || mayThrow && THROWN.getOrDefault(m.getName(), 0) < 100) {
                System.out.println(m.getName() + " was not called often enough");
                wrong++;
            }
        }
        System.out.println("ModelTest: " + RUNS + " runs, " + wrong + " wrong");
        System.exit(wrong > 0 ? 1 : 0);
    }

    private static Method[] face() {
        Method[] all = HalfOaths.class.getDeclaredMethods();
        Method[] face = Arrays.stream(all)
            .filter(m -> java.lang.reflect.Modifier.isPublic(m.getModifiers()))
            .sorted(Comparator.comparing(Method::getName)).toArray(Method[]::new);
        if (face.length != 44) {
            System.out.println("the face has " + face.length + " methods");
            wrong++;
        }
        return face;
    }

    private void run() throws Exception {
        if (random.nextInt(8) > 0) {
            tell("hills", hillsText(3 + random.nextInt(9)));
        }
        if (random.nextInt(3) > 0) {
            tell("law", lawText());
        }
        while (calls < CALLS - 30 && wrong == 0) {
            switch (random.nextInt(12)) {
                case 0:
                    tellSomething();
                    break;
                case 1:
                    call("begin", random.nextInt(6));
                    break;
                case 2:
                    call("hours", 1 + random.nextInt(3));
                    break;
                default:
                    Method m = FACE[random.nextInt(FACE.length)];
                    if (!isRare(m.getName()) || random.nextInt(20) == 0) {
                        call(m.getName(), arguments(m));
                    }
            }
        }
    }

    private static boolean isRare(String name) {
        return name.equals("back") || name.equals("feed") || name.equals("undo") || Arrays.asList(READERS).contains(name);
    }

    private Object[] arguments(Method m) {
        Class<?>[] types = m.getParameterTypes();
        Object[] arguments = new Object[types.length];
        for (int i = 0; i < types.length; i++) {
            arguments[i] = types[i] == boolean.class ? (Object) random.nextBoolean() : (Object) number();
        }
        return arguments;
    }

    private int number() {
        switch (random.nextInt(20)) {
            case 0:
                return random.nextInt();
            case 1:
                return -1;
            case 2:
                return random.nextInt(120) - 10;
            case 3:
                return random.nextInt(20);
            case 4:
                return new int[] {Integer.MIN_VALUE, Integer.MAX_VALUE, 60, 61, 100, 101, 99}[random.nextInt(7)];
            default:
                return random.nextInt(random.nextBoolean() ? 6 : 11);
        }
    }

    // ---- calls of both

    private void call(String name, Object... arguments) throws Exception {
        calls++;
        String got = outcome(x, HalfOaths.class, name, arguments);
        String due = outcome(model, Model.class, name, arguments);
        (due.startsWith("throws ") ? THROWN : ANSWERED).merge(name, 1, Integer::sum);
        if (!got.equals(due)) {
            wrong++;
            System.out.println("run " + run + ", call " + calls + ": " + name + Arrays.toString(arguments)
                + " answered " + got + ", due is " + due);
        }
    }

    private static String outcome(Object on, Class<?> type, String name, Object[] arguments) throws Exception {
        for (Method m : type.getDeclaredMethods()) {
            if (m.getName().equals(name) && java.lang.reflect.Modifier.isPublic(m.getModifiers())) {
                try {
                    return String.valueOf(m.invoke(on, arguments));
                } catch (InvocationTargetException e) {
                    return "throws " + e.getCause().getClass().getName();
                }
            }
        }
        throw new IllegalStateException("no " + name);
    }

    private void tell(String reader, String text) throws Exception {
        byte[] bytes = text.getBytes(StandardCharsets.ISO_8859_1);
        if (bytes.length > 400) {
            bytes = Arrays.copyOf(bytes, 400);
        }
        if (random.nextInt(6) > 0) {
            call("end", 0);
        }
        for (int i = 0; i < bytes.length; i += 20) {
            Object[] n = new Object[5];
            for (int k = 0; k < 5; k++) {
                int all = 0;
                for (int b = 0; b < 4; b++) {
                    int at = i + 4 * k + b;
                    all = all << 8 | (at < bytes.length ? bytes[at] & 255 : 0);
                }
                n[k] = all;
            }
            call("feed", n);
        }
        call("end", bytes.length);
        call(reader, reader.equals("coughs") || reader.equals("first") ? new Object[] {random.nextInt(100)} : new Object[0]);
        if (reader.equals("hills") || reader.equals("law") || random.nextInt(9) == 0) {
            call("fault");
        }
    }

    private void tellSomething() throws Exception {
        int what = random.nextInt(12);
        if (what == 0) {
            tell("hills", spoilt(hillsText(random.nextInt(5))));
        } else if (what < 4) {
            tell("law", spoilt(lawText()));
        } else if (what < 8) {
            String reader = READERS[2 + random.nextInt(3)];
            tell(reader, rows());
        } else {
            StringBuilder bytes = new StringBuilder();
            for (int i = random.nextInt(7); i > 0; i--) {
                bytes.append((char) (1 + random.nextInt(9)));
            }
            tell(READERS[5 + random.nextInt(2)], spoilt(bytes.toString()));
        }
    }

    // ---- texts

    private String rows() {
        StringBuilder rows = new StringBuilder();
        int people = model.count(0);
        int person = people == 0 ? 0 : random.nextInt(people);
        for (int i = random.nextInt(random.nextInt(8) == 0 ? 21 : 5); i > 0; i--) {
            int place = random.nextInt(random.nextInt(4) == 0 ? 12 : 4);
            int kind = people == 0 || random.nextInt(5) == 0 ? random.nextInt(11) : model.word(person, place, false);
            rows.append((char) place).append((char) (kind < 0 ? 10 : kind));
        }
        return random.nextInt(8) == 0 ? spoilt(rows.toString()) : rows.toString();
    }

    private String blank() {
        return random.nextInt(9) == 0 ? "  ".substring(random.nextInt(2)) : "";
    }

    private String hillsText(int lines) {
        StringBuilder text = new StringBuilder(blank());
        for (int i = 0; i < lines; i++) {
            if (i > 0) {
                text.append(blank()).append(';').append(blank());
            }
            switch (random.nextInt(8)) {
                case 0:
                    text.append("mode ").append(random.nextInt(4)).append(' ').append(random.nextInt(3));
                    break;
                case 1:
                    text.append("noise ").append(random.nextInt(101));
                    break;
                case 2:
                    text.append(random.nextBoolean() ? "hour " : "ears ").append(random.nextInt(1000));
                    break;
                default:
                    appendOath(text);
            }
        }
        return text.append(blank()).toString();
    }

    private void appendOath(StringBuilder text) {
        text.append("oath");
        int most = 1 + random.nextInt(random.nextInt(4) == 0 ? 12 : 7);
        int open = 0;
        for (int words = 0; words < most; words++) {
            boolean mustShut = open >= most - words;
            if (mustShut || open > 0 && random.nextInt(4) == 0) {
                text.append(" shut");
                open--;
            } else if (open < 3 && most - words > open + 1 && random.nextInt(4) == 0) {
                text.append(" open");
                open++;
            } else {
                int kind = random.nextInt(8);
                text.append(' ').append(WORDS[kind]);
                if (kind == 3 || kind == 4 || kind > 5) {
                    text.append(random.nextInt(5) == 0 ? "" : " ").append(random.nextInt(random.nextInt(3) == 0 ? 10 : 3));
                }
            }
        }
        if (random.nextInt(2) == 0) {
            text.append(" breath ").append(1 + random.nextInt(random.nextInt(3) == 0 ? 9 : 2));
        }
        if (random.nextInt(2) == 0) {
            text.append(" guards ").append(random.nextInt(random.nextInt(3) == 0 ? 10 : 3));
        }
    }

    private String lawText() {
        StringBuilder text = new StringBuilder(blank());
        int lines = random.nextInt(random.nextInt(6) == 0 ? 14 : 5);
        for (int i = 0; i < lines; i++) {
            text.append(i == 0 ? "" : ";").append(blank());
            text.append(new String[] {"weigh ", "ease ", "hear "}[random.nextInt(3)]).append(random.nextInt(random.nextInt(3) == 0 ? 41 : 6));
            if (random.nextInt(3) > 0) {
                text.append(" if ").append(condition(random.nextInt(6) == 0 ? 8 : 3)).append(blank());
            }
        }
        return text.toString();
    }

    private String condition(int deep) {
        int what = random.nextInt(deep > 0 ? 9 : 4);
        switch (what) {
            case 0:
                return new String[] {"whole", "turned", "empty"}[random.nextInt(3)];
            case 4:
                return "not " + condition(deep - 1);
            case 5:
                return "(" + condition(deep - 1) + ")" + blank();
            case 6:
                return condition(deep - 2) + " or " + condition(deep - 2);
            case 7:
                return condition(deep - 2) + " and " + condition(deep - 2);
            default:
                return sum() + blank() + (random.nextBoolean() ? "<" : ">") + blank() + sum();
        }
    }

    private String sum() {
        String part = random.nextInt(2) == 0 ? PARTS[random.nextInt(7)] : String.valueOf(random.nextInt(random.nextInt(4) == 0 ? 999 : 8));
        return random.nextInt(4) == 0 ? part + blank() + "+" + blank() + sum() : part;
    }

    /** Mostly with a byte or a piece that is not right. */
    private String spoilt(String text) {
        if (random.nextInt(3) == 0 || text.isEmpty()) {
            return text;
        }
        StringBuilder b = new StringBuilder(text);
        int at = random.nextInt(b.length());
        switch (random.nextInt(5)) {
            case 0:
                b.setCharAt(at, (char) random.nextInt(256));
                break;
            case 1:
                b.deleteCharAt(at);
                break;
            case 2:
                b.setLength(at);
                break;
            case 3:
                b.insert(at, "0159 ;()<+ago".charAt(random.nextInt(13)));
                break;
            default:
                b.insert(at, text.substring(random.nextInt(at + 1), at));
        }
        return b.toString();
    }
}
