/** All that hills tell of themselves (but for the TAPE and fault()), as a text: like texts are like states. */
final class State {
    private State() {
    }

    static String of(HalfOaths x) {
        StringBuilder all = new StringBuilder();
        for (int what = 0; what < 10; what++) {
            add(all, "count", x.count(what));
        }
        for (int distance = 0; distance < 4; distance++) {
            add(all, "mode", x.mode(distance));
        }
        int seed = x.seed(0);
        x.seed(seed);
        add(all, "seed", seed);
        for (int person = 0; person < x.count(0); person++) {
            addPerson(all, x, person);
        }
        for (int ago = 0; ago < x.count(8); ago++) {
            for (int what = 0; what < 5; what++) {
                add(all, "log", x.log(ago, what));
            }
        }
        return all.toString();
    }

    private static void addPerson(StringBuilder all, HalfOaths x, int person) {
        for (int what = 0; what < 5; what++) {
            add(all, "person", x.person(person, what));
        }
        for (int k = 0; k < x.person(person, 0); k++) {
            add(all, "kind", x.word(person, k, false));
            add(all, "n", x.word(person, k, true));
            add(all, "weight", x.reading(person, k + 1, 6));
            add(all, "heard", x.reading(person, k + 1, 7));
        }
    }

    private static void add(StringBuilder all, String name, int value) {
        all.append(name).append(' ').append(value).append(", ");
    }
}
