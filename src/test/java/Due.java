import java.nio.charset.StandardCharsets;
import java.util.Arrays;

/** What the tests of the project share: answers that are due, and texts put on a tape. */
final class Due {
    interface Call {
        Object run();
    }

    private static int checked = 0;
    private static int wrong = 0;
    private static String about = "";

    private Due() {
    }

    /** What stands ahead of all that is said of a wrong answer from here on. */
    static void about(String words) {
        about = words;
    }

    static int checked() {
        return checked;
    }

    static void wrong(String what) {
        wrong++;
        System.out.println(about + what);
    }

    static void same(String what, long got, long want) {
        checked++;
        if (got != want) {
            wrong(what + " answered " + got + ", due is " + want);
        }
    }

    static void same(String what, String got, String want) {
        checked++;
        if (!got.equals(want)) {
            wrong(what + " is " + got + ", due is " + want);
        }
    }

    static void same(String what, boolean got, boolean want) {
        same(what, got ? 1 : 0, want ? 1 : 0);
    }

    static void fails(String what, Class<? extends RuntimeException> want, Call call) {
        checked++;
        String got;
        try {
            got = "answered " + call.run();
        } catch (RuntimeException e) {
            got = e.getClass() == want ? null : "threw " + e.getClass().getName();
        }
        if (got != null) {
            wrong(what + " " + got + ", due is " + want.getName());
        }
    }

    static void outside(String what, Call call) {
        fails(what, IndexOutOfBoundsException.class, call);
    }

    static void noNumber(String what, Call call) {
        fails(what, IllegalArgumentException.class, call);
    }

    static void cannotBe(String what, Call call) {
        fails(what, IllegalStateException.class, call);
    }

    static void noThing(String what, Call call) {
        fails(what, java.util.NoSuchElementException.class, call);
    }

    /** Puts just these bytes on the tape. */
    static HalfOaths tape(HalfOaths x, int... bytes) {
        x.end(0);
        for (int i = 0; i < bytes.length; i += 20) {
            int[] part = Arrays.copyOf(Arrays.copyOfRange(bytes, i, Math.min(bytes.length, i + 20)), 20);
            int[] n = new int[5];
            for (int k = 0; k < 20; k++) {
                n[k / 4] = n[k / 4] << 8 | part[k] & 255;
            }
            x.feed(n[0], n[1], n[2], n[3], n[4]);
        }
        x.end(bytes.length);
        return x;
    }

    static HalfOaths text(HalfOaths x, String text) {
        byte[] bytes = text.getBytes(StandardCharsets.ISO_8859_1);
        int[] all = new int[bytes.length];
        for (int i = 0; i < all.length; i++) {
            all[i] = bytes[i] & 255;
        }
        return tape(x, all);
    }

    static HalfOaths hills(String text) {
        HalfOaths x = new HalfOaths();
        text(x, text).hills();
        return x;
    }

    static HalfOaths hills(String text, String law) {
        HalfOaths x = hills(text);
        text(x, law).law();
        return x;
    }

    /** A text with just that line, so many times. */
    static String lines(String line, int n) {
        return line + (";" + line).repeat(n - 1);
    }

    /** The text of the hills is right: the hills of it. */
    static HalfOaths rightHills(String text) {
        HalfOaths x = new HalfOaths();
        same("texts with " + text, text(x, text).hills(), 1);
        same("fault of " + text, x.fault(), HalfOaths.NONE);
        return x;
    }

    static void wrongHills(String text, int wrongByte) {
        HalfOaths x = new HalfOaths();
        noNumber("hills of " + text, text(x, text)::hills);
        same("fault of " + text, x.fault(), wrongByte);
    }

    static void rightLaw(String text, int lines) {
        HalfOaths x = new HalfOaths();
        same("lines of " + text, text(x, text).law(), lines);
        same("fault of " + text, x.fault(), HalfOaths.NONE);
    }

    static void wrongLaw(String text, int wrongByte) {
        HalfOaths x = new HalfOaths();
        noNumber("law of " + text, text(x, text)::law);
        same("fault of " + text, x.fault(), wrongByte);
    }

    static void close(String name) {
        System.out.println(name + ": " + checked + " checked, " + wrong + " wrong");
        if (wrong != 0 || checked == 0) {
            System.exit(1);
        }
    }
}
