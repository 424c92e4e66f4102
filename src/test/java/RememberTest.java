/** Promises 39 to 45: the log, seeds, acts undone, the image and counts. */
public final class RememberTest {
    public static void main(String[] args) {
        led();
        log();
        seed();
        undo();
        undoEachAct();
        undoOfRows();
        textsForget();
        image();
        imageOfRows();
        count();
        Due.close("RememberTest");
    }

    private static void led() {
        HalfOaths x = Due.hills("oath go by 1 by 2;oath wed;noise 0;hour 40");
        Due.same("39: none", x.led(0, false), 0);
        Due.same("39: none", x.led(0, true), -1);
        x.begin(0);
        x.stop(0, 1);
        x.hours(2);
        x.stop(0, 0);
        x.begin(1);
        x.hours(1);
        x.retract(0);
        Due.same("39: rows", x.led(0, false), 3);
        Due.same("39: the hour of the latest", x.led(0, true), 43);
        Due.same("39: rows of the other", x.led(1, false), 1);
        Due.same("39: its hour", x.led(1, true), 42);
        Due.outside("39", () -> x.led(2, false));
        Due.outside("39", () -> x.led(-1, true));
    }

    private static void log() {
        HalfOaths x = Due.hills("oath go by 3;oath give sum 6;noise 0;hour 9", "weigh 1");
        x.begin(0);
        x.hours(1);
        x.stop(0, 1);
        x.begin(1);
        x.hours(2);
        x.retract(1);
        int[][] rows = {{12, 1, 6, 2, 7}, {11, 1, 5, 2, 7}, {10, 0, 5, 2, 10}, {10, 0, 1, 1, 3}};
        for (int ago = 0; ago < rows.length; ago++) {
            for (int what = 0; what < 5; what++) {
                Due.same("40: " + ago + " ago, " + what, x.log(ago, what), rows[ago][what]);
            }
        }
        Due.same("40: none", x.log(4, 0), -1);
        Due.same("40: none", x.log(-1, 0), -1);
        Due.noThing("40", () -> x.log(0, 5));
        Due.noThing("40", () -> x.log(0, -1));
        Due.noThing("40: of none", () -> x.log(99, 5));
        x.turn(0, 1);
        Due.text(x, "weigh 30");
        x.law();
        Due.same("40: as it weighed then", x.log(0, 4), 7);
        HalfOaths y = Due.hills("oath go;oath wed;noise 0");
        y.begin(1);
        y.stop(1, 0);
        y.begin(0);
        for (int i = 0; i < 59; i++) {
            y.stop(0, 1);
            y.seed(i);
        }
        Due.same("40: sixty rows", y.count(8), 60);
        Due.same("40: the first one yet", y.log(59, 1), 1);
        y.stop(0, 1);
        y.hours(3);
        Due.same("40: sixty at most", y.count(8), 60);
        Due.same("40: the first ones are gone", y.log(59, 1), 0);
        Due.same("40: the first ones are gone", y.led(1, false), 0);
        Due.same("40: the latest", y.log(0, 2), 5);
        Due.same("40: the one before", y.log(1, 2), 1);
        Due.same("40: none", y.log(60, 0), -1);
    }

    private static void seed() {
        HalfOaths x = new HalfOaths();
        Due.same("41: 1 at first", x.seed(Integer.MIN_VALUE), 1);
        Due.same("41: what it was", x.seed(7), Integer.MIN_VALUE);
        Due.same("41: no act", x.count(9), 0);
        HalfOaths y = Due.hills("oath go by 1;noise 0");
        y.begin(0);
        y.seed(1);
        y.hours(1);
        Due.same("41: one draw", y.seed(0), 1103527590);
    }

    private static void undo() {
        HalfOaths x = Due.hills("oath go by 1 by 2 by 3 by 4 by 5 breath 1;noise 0");
        Due.same("42: none", x.undo(), false);
        x.begin(0);
        x.hours(2);
        x.hours(60);
        Due.same("42: hours of one call are one", x.undo(), true);
        Due.same("42: said", x.person(0, 4), 2);
        Due.same("42: hour", x.count(4), 2);
        Due.same("42: ears", x.count(5), 0);
        Due.same("42: log", x.count(8), 0);
        Due.same("42: before", x.undo(), true);
        Due.same("42: said", x.person(0, 4), 0);
        Due.same("42: the seed", x.seed(1), 1);
        Due.same("42: begun", x.undo(), true);
        Due.same("42: silent", x.which(0), 1);
        Due.same("42: no more", x.undo(), false);
        for (int i = 1; i <= 15; i++) {
            x.noise(i);
        }
        Due.same("45: twelve are remembered", x.count(9), 12);
        for (int i = 14; i >= 3; i--) {
            Due.same("42: " + i, x.undo(), true);
            Due.same("42: " + i, x.count(3), i);
            Due.same("45: acts", x.count(9), i - 3);
        }
        Due.same("42: the first three are forgotten", x.undo(), false);
        Due.same("42: nothing happened", x.count(3), 3);
        x.guard(0, 5);
        x.noise(77);
        x.undo();
        x.guard(0, 6);
        x.undo();
        x.undo();
        Due.same("42: an act behind one undone", x.person(0, 2), 0);
        Due.same("42: no more", x.undo(), false);
    }

    private static void undoEachAct() {
        HalfOaths x = begun();
        int acts = x.count(9);
        Due.fails("42", IllegalStateException.class, () -> x.begin(1));
        Due.fails("42", IllegalArgumentException.class, () -> x.noise(-1));
        Due.same("42: what throws is no act", x.count(9), acts);
        for (int i = 0; i < 13; i++) {
            HalfOaths y = begun();
            long ahead = stateOf(y);
            act(y, i);
            Due.same("42: act " + i, y.count(9), acts + 1);
            Due.same("42: act " + i, y.undo(), true);
            Due.same("42: act " + i, stateOf(y), ahead);
        }
    }

    private static HalfOaths begun() {
        HalfOaths x = Due.hills("oath go by 1;oath wed;oath give;noise 20");
        x.begin(1);
        x.begin(2);
        x.finish(2);
        return x;
    }

    private static void act(HalfOaths x, int i) {
        Runnable[] each = {() -> x.hours(1), () -> x.begin(0), () -> x.stop(1, 1), () -> x.stop(1, 0), () -> x.finish(1),
            () -> x.retract(2), () -> x.guard(0, 3), () -> x.guard(0, 0), () -> x.noise(3), () -> x.noise(20),
            () -> x.turn(0, 0), () -> x.turn(0, 2), () -> x.repeat(0, 1)};
        each[i].run();
    }

    private static long stateOf(HalfOaths x) {
        long all = x.seed(0);
        x.seed((int) all);
        for (int person = 0; person < x.count(0); person++) {
            for (int what = 0; what < 5; what++) {
                all = all * 31 + x.person(person, what);
            }
        }
        for (int what = 0; what < 10; what++) {
            all = all * 31 + x.count(what);
        }
        return all * 31 + x.mode(0) + 7 * x.log(0, 2);
    }

    private static void undoOfRows() {
        HalfOaths x = Due.hills("oath go;oath wed;noise 0");
        x.begin(1);
        x.stop(1, 0);
        x.begin(0);
        for (int i = 0; i < 60; i++) {
            x.stop(0, 1);
        }
        Due.same("42: the first row is gone", x.led(1, false), 0);
        x.undo();
        Due.same("42: the first row is there again", x.led(1, false), 1);
        Due.same("42: as the first one", x.log(59, 1), 1);
        Due.same("42: sixty rows yet", x.count(8), 60);
        x.undo();
        Due.same("42: one row fewer", x.count(8), 59);
        Due.same("42: the first row stays", x.log(58, 1), 1);
    }

    private static void imageOfRows() {
        HalfOaths x = Due.hills("oath go;oath wed;noise 0");
        x.begin(0);
        x.begin(1);
        x.stop(0, 1);
        x.stop(1, 0);
        x.image();
        x.undo();
        x.stop(0, 3);
        Due.same("44: another row at that place", x.log(0, 1), 0);
        x.back();
        Due.same("44: the row of the image", x.log(0, 1), 1);
        Due.same("44: the row of the image", x.log(0, 2), 0);
        Due.same("44: the row ahead of it", x.log(1, 2), 1);
    }

    private static void textsForget() {
        HalfOaths x = Due.hills("oath go");
        x.noise(1);
        Due.text(x, "hour");
        Due.noNumber("42", x::hills);
        Due.same("42: a wrong text forgets nothing", x.count(9), 1);
        Due.text(x, "hear");
        Due.noNumber("42", x::law);
        Due.same("42: a wrong law forgets nothing", x.count(9), 1);
        Due.text(x, "hear 1");
        x.law();
        Due.same("42: a law", x.count(9), 0);
        Due.same("42: a law", x.undo(), false);
        x.noise(2);
        Due.text(x, "");
        x.hills();
        Due.same("42: a text of the hills", x.count(9), 0);
        Due.same("42: a text of the hills", x.undo(), false);
        x.image();
        x.noise(3);
        Due.same("42: an image forgets nothing", x.count(9), 1);
        x.image();
        Due.same("42: an image forgets nothing", x.count(9), 1);
        x.back();
        Due.same("42: going back", x.count(9), 0);
        Due.same("42: going back", x.undo(), false);
        Due.same("44: the latest image", x.count(3), 3);
        for (int i = 0; i < 10; i++) {
            Due.text(x, "");
            x.hills();
        }
        x.noise(5);
        Due.fails("42", UnsupportedOperationException.class, x::hills);
        Due.same("42: a text that is refused forgets nothing", x.count(9), 1);
    }

    private static void image() {
        HalfOaths x = Due.hills("oath go by 1;oath wed;noise 7;mode 1 2", "weigh 5");
        Due.same("44: none was kept", x.back(), false);
        x.begin(0);
        x.stop(0, 1);
        x.seed(55);
        x.image();
        long kept = stateOf(x) - x.count(9);
        x.seed(66);
        x.finish(0);
        x.guard(1, 4);
        x.turn(0, 1);
        x.noise(99);
        Due.text(x, "oath wed;hour 77;ears 7");
        x.hills();
        Due.text(x, "");
        x.law();
        Due.text(x, "goat");
        Due.noNumber("44", x::hills);
        x.feed(1, 2, 3, 4, 5);
        for (int i = 0; i < 2; i++) {
            Due.same("44: back", x.back(), true);
            Due.same("44: people", x.count(0), 2);
            Due.same("44: texts", x.count(1), 1);
            Due.same("44: law", x.count(2), 1);
            Due.same("44: law", x.reading(1, 1, 6), 14);
            Due.same("44: noise", x.count(3), 7);
            Due.same("44: hour", x.count(4), 0);
            Due.same("44: ears", x.count(5), 0);
            Due.same("44: modes", x.mode(0) + 10 * x.mode(1), 20);
            Due.same("44: guards", x.person(1, 2), 0);
            Due.same("44: log", x.count(8), 1);
            Due.same("44: seed", x.seed(1), 55);
            Due.same("44: speaking", x.which(1), 1);
            Due.same("44: acts", x.count(9), 0);
            x.noise(50);
            x.turn(0, 2);
            x.finish(0);
        }
        Due.same("44: fault stays", x.fault(), 0);
        Due.same("44: the tape stays", x.end(20), true);
        x.undo();
        x.undo();
        x.undo();
        Due.same("44: acts behind", x.count(3), 7);
        Due.same("43: of nothing", backOfNothing(), 0);
    }

    private static int backOfNothing() {
        HalfOaths x = new HalfOaths();
        x.image();
        Due.text(x, "oath go");
        x.hills();
        Due.text(x, "hear 1");
        x.law();
        Due.same("44: back", x.back(), true);
        Due.same("44: no law", x.count(2), -1);
        Due.same("44: texts", x.count(1), 0);
        return x.count(0);
    }

    private static void count() {
        HalfOaths x = Due.hills("oath go by 1 guards 2;oath give guards 5;oath wed;noise 31;hour 12;ears 44", "hear 1;hear 2");
        x.begin(0);
        x.stop(0, 1);
        x.stop(0, 0);
        int[] due = {3, 1, 2, 31, 12, 44, 4, 7, 2, 3};
        for (int what = 0; what < due.length; what++) {
            Due.same("45: " + what, x.count(what), due[what]);
        }
        Due.same("45: another", x.count(10), -1);
        Due.same("45: another", x.count(-1), -1);
    }
}
