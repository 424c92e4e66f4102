/** Promises 33 to 38: odds, who is the most, who is how, twins, trials and spans. */
public final class OddsTest {
    public static void main(String[] args) {
        odds();
        most();
        which();
        twins();
        trial();
        span();
        Due.close("OddsTest");
    }

    private static void odds() {
        HalfOaths x = Due.hills("oath go by 1 by 2 by 3 by 4 by 5 guards 1;oath go by 1 by 2 by 3 by 4;"
            + "oath give guards 9;oath wed;noise 33");
        Due.same("33: nobody speaks", x.odds(4), 10000);
        x.begin(0);
        int[] one = {10000, 7700, 5929, 4565, 3515};
        for (int n = 0; n <= 4; n++) {
            Due.same("33: one speaks", x.odds(n), one[n]);
        }
        x.begin(1);
        int[] two = {10000, 5159, 2661, 1372, 707};
        for (int n = 0; n <= 4; n++) {
            Due.same("33: two speak, rounded down at each one", x.odds(n), two[n]);
        }
        x.begin(2);
        Due.same("33: 0 at least", x.odds(2), 2661);
        x.begin(3);
        x.finish(3);
        Due.same("33: one held does not speak", x.odds(2), 2661);
        x.noise(100);
        Due.same("33: no hour", x.odds(0), 10000);
        Due.same("33: surely", x.odds(1), 0);
        Due.noNumber("33", () -> x.odds(5));
        Due.noNumber("33", () -> x.odds(-1));
    }

    private static void most() {
        HalfOaths none = new HalfOaths();
        for (int what = 0; what < 3; what++) {
            Due.same("34: nobody", none.most(what), -1);
        }
        Due.noThing("34: of nobody", () -> none.most(3));
        HalfOaths x = Due.hills("oath go guards 2;oath wed if 1 guards 3;oath sum 3 give;oath go by 1 guards 3");
        Due.same("34: longest, of several the least", x.most(0), 1);
        Due.same("34: heaviest of none held", x.most(1), 0);
        Due.same("34: best guarded, of several the least", x.most(2), 1);
        x.begin(3);
        Due.same("34: one who speaks holds nothing", x.most(1), 0);
        x.finish(3);
        Due.same("34: heaviest", x.most(1), 3);
        x.begin(1);
        x.finish(1);
        Due.same("34: heaviest", x.most(1), 3);
        x.retract(3);
        Due.same("34: heaviest", x.most(1), 1);
        Due.noThing("34", () -> x.most(3));
        Due.noThing("34", () -> x.most(-1));
    }

    private static void which() {
        HalfOaths x = Due.hills("oath go;oath go;oath go;oath go");
        x.begin(1);
        x.begin(2);
        x.finish(2);
        Due.same("35: silent", x.which(0), 9);
        Due.same("35: speaking", x.which(1), 2);
        Due.same("35: held", x.which(2), 4);
        Due.noThing("35", () -> x.which(3));
        Due.noThing("35", () -> x.which(-1));
    }

    private static void twins() {
        HalfOaths x = Due.hills("oath go by 1 breath 3;oath go by 1;oath go by 2;oath go;oath by 1 go;oath go by 1 guards 4");
        Due.same("36: pairs of three", x.twins(), 3);
        Due.same("36: nobody", new HalfOaths().twins(), 0);
        Due.same("36: one", Due.hills("oath go").twins(), 0);
    }

    private static HalfOaths speaking() {
        HalfOaths x = Due.hills("oath go by 1 by 2 by 3 by 4;oath wed if 1 if 2 if 3 if 4 if 5 if 6 if 7 if 8;"
            + "oath give to 1 to 2 guards 4;noise 50;ears 5", "hear 3 if person > 1;hear 11 if not whole");
        x.begin(0);
        x.begin(1);
        x.begin(2);
        return x;
    }

    private static void trial() {
        for (int seed = 1; seed < 30; seed++) {
            for (int n = 0; n < 12; n++) {
                HalfOaths x = speaking();
                x.seed(seed * 7919);
                int held = x.trial(n, false);
                int ears = x.trial(n, true);
                Due.same("37: nothing stays", x.seed(seed * 7919), seed * 7919);
                Due.same("37: nothing stays", x.count(4), 0);
                Due.same("37: nothing stays", x.count(8), 0);
                Due.same("37: nothing stays", x.which(1), 7);
                Due.same("37: no act", x.count(9), 3);
                if (n > 0) {
                    x.hours(n);
                }
                Due.same("37: held", held, x.which(2));
                Due.same("37: ears", ears, x.count(5));
            }
        }
        HalfOaths x = speaking();
        x.finish(1);
        Due.same("37: held already", x.trial(0, false), 2);
        Due.same("37: ears already", x.trial(0, true), 5);
        x.noise(0);
        Due.same("37: all held", x.trial(60, false), 7);
        Due.noNumber("37", () -> x.trial(61, false));
        Due.noNumber("37", () -> x.trial(-1, true));
    }

    private static void span() {
        for (int n = 0; n < 12; n++) {
            HalfOaths x = speaking();
            int least = Integer.MAX_VALUE;
            int most = 0;
            for (int seed = 1; seed <= 6; seed++) {
                x.seed(seed);
                int ears = x.trial(n, true);
                least = Math.min(least, ears);
                most = Math.max(most, ears);
            }
            x.seed(99);
            Due.same("38: the least", x.span(n, false), least);
            Due.same("38: the greatest", x.span(n, true), most);
            Due.same("38: nothing stays", x.seed(99), 99);
            Due.same("38: nothing stays", x.count(5), 5);
        }
        HalfOaths x = speaking();
        Due.noNumber("38", () -> x.span(61, false));
        Due.noNumber("38", () -> x.span(-1, true));
    }
}
