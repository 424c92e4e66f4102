import java.nio.charset.StandardCharsets;
import java.util.ArrayDeque;
import java.util.ArrayList;
import java.util.Arrays;
import java.util.Comparator;
import java.util.Deque;
import java.util.List;
import java.util.NoSuchElementException;
import java.util.TreeSet;
import java.util.function.Predicate;
import java.util.function.ToIntFunction;
import java.util.regex.Matcher;
import java.util.regex.Pattern;

/** The document told once more, as plainly as can be and without a care for speed: what ModelTest holds the class to. */
public final class Model {
    private static final List<String> KINDS =
        List.of("give", "go", "wed", "sum", "if", "not", "by", "to", "open", "shut");

    private record Word(int kind, int n) { }

    private record LawLine(String what, int n, Predicate<Reading> condition) { }

    private record Row(int hour, int person, int what, int words, int weight) { }

    private static final class Person {
        List<Word> oath = new ArrayList<>();
        int breath = 1;
        int guards = 0;
        int state = 0;
        int words = 0;

        Person copy() {
            Person p = new Person();
            p.oath = new ArrayList<>(oath);
            p.breath = breath;
            p.guards = guards;
            p.state = state;
            p.words = words;
            return p;
        }
    }

    private static final class World {
        List<Person> people = new ArrayList<>();
        int[] modes = new int[4];
        int noise = 20;
        int hour = 0;
        int ears = 0;
        int seed = 1;
        int texts = 0;
        List<Row> log = new ArrayList<>();
        List<LawLine> law = null;

        World copy() {
            World w = new World();
            for (Person p : people) {
                w.people.add(p.copy());
            }
            w.modes = modes.clone();
            w.noise = noise;
            w.hour = hour;
            w.ears = ears;
            w.seed = seed;
            w.texts = texts;
            w.log = new ArrayList<>(log);
            w.law = law;
            return w;
        }

        int draw() {
            seed = seed * 1103515245 + 12345;
            return (seed >> 16) & 0x7fff;
        }
    }

    private static final class Clause {
        int verb = 0;
        int sum = 0;
        TreeSet<Integer> ifs = new TreeSet<>();
        TreeSet<Integer> tos = new TreeSet<>();
        int by = 10;
        boolean turned = false;

        void lay(Clause c) {
            verb = verb == 0 ? c.verb : verb;
            sum = Math.min(99, sum + c.sum);
            ifs.addAll(c.ifs);
            tos.addAll(c.tos);
            by = Math.min(by, c.by);
            turned = turned != c.turned;
        }
    }

    private static final class Reading {
        Clause c;
        int person;
        int count;
        boolean whole;
        int weight;
        int heard;
    }

    private static final class Wrong extends RuntimeException {
        final int at;

        Wrong(int at) {
            this.at = at;
        }
    }

    private record Token(String text, int at) { }

    private static final class Reader {
        final List<Token> tokens = new ArrayList<>();
        int next = 0;

        Reader(List<Integer> tape) {
            byte[] bytes = new byte[tape.size()];
            for (int i = 0; i < bytes.length; i++) {
                bytes[i] = (byte) (int) tape.get(i);
            }
            Matcher m = Pattern.compile("[a-z]+|[0-9]+|[^ ]").matcher(new String(bytes, StandardCharsets.ISO_8859_1));
            while (m.find()) {
                tokens.add(new Token(m.group(), m.start()));
            }
            tokens.add(new Token("", bytes.length));
        }

        String peek() {
            return tokens.get(next).text;
        }

        boolean at(String text) {
            return peek().equals(text);
        }

        boolean take(String text) {
            if (at(text)) {
                next++;
                return true;
            }
            return false;
        }

        Wrong wrong() {
            return new Wrong(tokens.get(next).at);
        }

        int number(int least, int most) {
            if (!peek().matches("[0-9]{1,3}")) {
                throw wrong();
            }
            int n = Integer.parseInt(peek());
            if (n < least || n > most) {
                throw wrong();
            }
            next++;
            return n;
        }
    }

    private final List<Integer> tape = new ArrayList<>();
    private int fault = -1;
    private World w = new World();
    private final Deque<World> acts = new ArrayDeque<>();
    private World image = null;

    public int feed(int a, int b, int c, int d, int e) {
        if (tape.size() > 380) {
            return -1;
        }
        for (int n : new int[] {a, b, c, d, e}) {
            tape.add(n >>> 24);
            tape.add(n >>> 16 & 255);
            tape.add(n >>> 8 & 255);
            tape.add(n & 255);
        }
        return tape.size();
    }

    public boolean end(int n) {
        if (n < 0 || n > tape.size()) {
            return false;
        }
        while (tape.size() > n) {
            tape.remove(tape.size() - 1);
        }
        return true;
    }

    private List<Integer> useTape() {
        List<Integer> all = new ArrayList<>(tape);
        tape.clear();
        return all;
    }

    public int hills() {
        Reader in = new Reader(useTape());
        World draft = w.copy();
        fault = -1;
        try {
            readHills(in, draft);
        } catch (Wrong e) {
            fault = e.at;
            throw new IllegalArgumentException();
        }
        if (w.texts == 12) {
            throw new UnsupportedOperationException();
        }
        w = draft;
        acts.clear();
        return ++w.texts;
    }

    private static void readHills(Reader in, World d) {
        int lines = 0;
        if (in.at("")) {
            return;
        }
        do {
            if (++lines == 15) {
                throw in.wrong();
            }
            if (in.at("oath")) {
                if (d.people.size() == 6) {
                    throw in.wrong();
                }
                in.next++;
                d.people.add(readPerson(in));
            } else if (in.take("mode")) {
                int distance = in.number(0, 3);
                d.modes[distance] = in.number(0, 2);
            } else if (in.take("noise")) {
                d.noise = in.number(0, 100);
            } else if (in.take("hour")) {
                d.hour = in.number(0, 999);
            } else if (in.take("ears")) {
                d.ears = in.number(0, 999);
            } else {
                throw in.wrong();
            }
        } while (in.take(";"));
        if (!in.at("")) {
            throw in.wrong();
        }
    }

    private static Person readPerson(Reader in) {
        Person p = new Person();
        int open = 0;
        while (KINDS.contains(in.peek())) {
            int kind = KINDS.indexOf(in.peek());
            if (p.oath.size() == 12 || kind == 8 && open == 3 || kind == 9 && open == 0) {
                throw in.wrong();
            }
            in.next++;
            open += kind == 8 ? 1 : 0;
            open -= kind == 9 ? 1 : 0;
            p.oath.add(new Word(kind, kind == 3 || kind == 4 || kind == 6 || kind == 7 ? in.number(0, 9) : 0));
        }
        if (p.oath.isEmpty() || open > 0) {
            throw in.wrong();
        }
        if (in.take("breath")) {
            p.breath = in.number(1, 9);
        }
        if (in.take("guards")) {
            p.guards = in.number(0, 9);
        }
        return p;
    }

    public int law() {
        Reader in = new Reader(useTape());
        fault = -1;
        List<LawLine> lines = new ArrayList<>();
        try {
            if (!in.at("")) {
                do {
                    if (lines.size() == 12 || !List.of("weigh", "ease", "hear").contains(in.peek())) {
                        throw in.wrong();
                    }
                    String what = in.peek();
                    in.next++;
                    int n = in.number(0, 40);
                    lines.add(new LawLine(what, n, in.take("if") ? any(in, 0) : r -> true));
                } while (in.take(";"));
                if (!in.at("")) {
                    throw in.wrong();
                }
            }
        } catch (Wrong e) {
            fault = e.at;
            throw new IllegalArgumentException();
        }
        w.law = lines;
        acts.clear();
        return lines.size();
    }

    private static Predicate<Reading> any(Reader in, int deep) {
        Predicate<Reading> p = all(in, deep);
        while (in.take("or")) {
            p = p.or(all(in, deep));
        }
        return p;
    }

    private static Predicate<Reading> all(Reader in, int deep) {
        Predicate<Reading> p = atom(in, deep);
        while (in.take("and")) {
            p = p.and(atom(in, deep));
        }
        return p;
    }

    private static Predicate<Reading> atom(Reader in, int deep) {
        if ((in.at("not") || in.at("(")) && deep == 6) {
            throw in.wrong();
        }
        if (in.take("not")) {
            return atom(in, deep + 1).negate();
        }
        if (in.take("(")) {
            Predicate<Reading> p = any(in, deep + 1);
            if (!in.take(")")) {
                throw in.wrong();
            }
            return p;
        }
        if (in.take("whole")) {
            return r -> r.whole;
        }
        if (in.take("turned")) {
            return r -> r.c.turned;
        }
        if (in.take("empty")) {
            return r -> r.c.verb == 0;
        }
        ToIntFunction<Reading> a = sum(in);
        boolean less = in.take("<");
        if (!less && !in.take(">")) {
            throw in.wrong();
        }
        ToIntFunction<Reading> b = sum(in);
        return r -> less ? a.applyAsInt(r) < b.applyAsInt(r) : a.applyAsInt(r) > b.applyAsInt(r);
    }

    private static ToIntFunction<Reading> sum(Reader in) {
        ToIntFunction<Reading> a = part(in);
        while (in.take("+")) {
            ToIntFunction<Reading> left = a;
            ToIntFunction<Reading> right = part(in);
            a = r -> left.applyAsInt(r) + right.applyAsInt(r);
        }
        return a;
    }

    private static ToIntFunction<Reading> part(Reader in) {
        switch (in.peek()) {
            case "person": in.next++; return r -> r.person;
            case "verb": in.next++; return r -> r.c.verb;
            case "sum": in.next++; return r -> r.c.sum;
            case "ifs": in.next++; return r -> r.c.ifs.size();
            case "by": in.next++; return r -> r.c.by;
            case "tos": in.next++; return r -> r.c.tos.size();
            case "count": in.next++; return r -> r.count;
            default:
                int n = in.number(0, 999);
                return r -> n;
        }
    }

    public int fault() {
        return fault;
    }

    private Person some(int person) {
        if (person < 0 || person >= w.people.size()) {
            throw new IndexOutOfBoundsException();
        }
        return w.people.get(person);
    }

    private static void number(int n, int least, int most) {
        if (n < least || n > most) {
            throw new IllegalArgumentException();
        }
    }

    private static void state(Person p, int state) {
        if (p.state != state) {
            throw new IllegalStateException();
        }
    }

    private static Reading read(World w, int person, List<Word> words, int count) {
        List<Clause> open = new ArrayList<>(List.of(new Clause()));
        for (Word word : words.subList(0, count)) {
            Clause c = open.get(open.size() - 1);
            switch (word.kind) {
                case 0: case 1: case 2: c.verb = c.verb == 0 ? word.kind + 1 : c.verb; break;
                case 3: c.sum = Math.min(99, c.sum + word.n); break;
                case 4: c.ifs.add(word.n); break;
                case 5: c.turned = !c.turned; break;
                case 6: c.by = Math.min(c.by, word.n); break;
                case 7: c.tos.add(word.n); break;
                case 8: open.add(new Clause()); break;
                default: open.remove(open.size() - 1); open.get(open.size() - 1).lay(c); break;
            }
        }
        for (int distance = 0; open.size() > 1; distance++) {
            Clause c = open.remove(open.size() - 1);
            if (w.modes[distance] != 0) {
                c.turned = c.turned != (w.modes[distance] == 2);
                open.get(open.size() - 1).lay(c);
            }
        }
        Reading r = new Reading();
        r.c = open.get(0);
        r.person = person;
        r.count = count;
        r.whole = count == words.size();
        int[] base = {0, r.c.sum + 2 * r.c.tos.size(), 12 - r.c.by, 9 - 2 * r.c.ifs.size()};
        r.weight = Math.max(0, base[r.c.verb]) / (r.c.turned ? 2 : 1);
        r.heard = 1;
        for (LawLine line : w.law == null ? List.<LawLine>of() : w.law) {
            if (line.condition.test(r)) {
                r.weight += line.what.equals("weigh") ? line.n : line.what.equals("ease") ? -line.n : 0;
                r.heard += line.what.equals("hear") ? line.n : 0;
            }
        }
        r.weight = r.c.verb == 0 ? 0 : Math.max(0, r.weight);
        return r;
    }

    private static Reading at(World w, int person, int count) {
        return read(w, person, w.people.get(person).oath, count);
    }

    private Reading held(int person) {
        Person p = w.people.get(person);
        return at(w, person, p.state == 2 ? p.words : 0);
    }

    private static int told(Reading r, int what) {
        switch (what) {
            case 0: return r.c.verb;
            case 1: return r.c.sum;
            case 2: return bits(r.c.ifs);
            case 3: return r.c.by;
            case 4: return bits(r.c.tos);
            case 5: return r.c.turned ? 1 : 0;
            case 6: return r.weight;
            case 7: return r.heard;
            default: throw new NoSuchElementException();
        }
    }

    private static int bits(Iterable<Integer> set) {
        int bits = 0;
        for (int i : set) {
            bits |= 1 << i;
        }
        return bits;
    }

    private int sure(int person, List<Word> words) {
        int least = Integer.MAX_VALUE;
        for (int k = 1; k <= words.size(); k++) {
            least = Math.min(least, read(w, person, words, k).weight);
        }
        return least;
    }

    public int person(int person, int what) {
        Person p = some(person);
        List<Integer> weights = new ArrayList<>();
        for (int k = 1; k <= p.oath.size(); k++) {
            weights.add(at(w, person, k).weight);
        }
        switch (what) {
            case 0: return p.oath.size();
            case 1: return p.breath;
            case 2: return p.guards;
            case 3: return p.state;
            case 4: return p.state == 0 ? 0 : p.words;
            case 5: return 1 + weights.indexOf(weights.stream().min(Integer::compare).get());
            case 6: return 1 + weights.indexOf(weights.stream().max(Integer::compare).get());
            case 7: return sure(person, p.oath);
            case 8: return need(p);
            case 9: return going(p);
            case 10:
                int all = 0;
                for (int other = 0; other < w.people.size(); other++) {
                    all += held(other).weight;
                }
                return all == 0 ? 0 : held(person).weight * 100 / all;
            default: throw new NoSuchElementException();
        }
    }

    private static int need(Person p) {
        int hours = 0;
        for (int said = 0; said < p.oath.size(); said += p.breath) {
            hours++;
        }
        return hours;
    }

    private int going(Person p) {
        List<Integer> all = new ArrayList<>();
        for (int other = 0; other < w.people.size() && p.state == 1; other++) {
            List<Word> oath = w.people.get(other).oath;
            if (oath.size() >= p.words && oath.subList(0, p.words).equals(p.oath.subList(0, p.words))) {
                all.add(other);
            }
        }
        return bits(all);
    }

    public int word(int person, int k, boolean n) {
        List<Word> oath = some(person).oath;
        return k < 0 || k >= oath.size() ? -1 : n ? oath.get(k).n : oath.get(k).kind;
    }

    public int reading(int person, int k, int what) {
        number(k, 0, some(person).oath.size());
        return told(at(w, person, k), what);
    }

    public int hold(int person, int what) {
        some(person);
        return told(held(person), what);
    }

    public int mode(int distance) {
        distance(distance);
        return w.modes[distance];
    }

    private static void distance(int distance) {
        if (distance < 0 || distance > 3) {
            throw new IndexOutOfBoundsException();
        }
    }

    private static void row(World w, int person, int what, int words) {
        w.log.add(new Row(w.hour, person, what, words, at(w, person, words).weight));
        if (w.log.size() > 60) {
            w.log.remove(0);
        }
    }

    private static int breakIn(World w, int person, int kind) {
        Person p = w.people.get(person);
        boolean others = false;
        for (Person other : w.people) {
            others |= other != p && other.state == 1;
        }
        int counted = kind == 2 ? p.words - 1 : kind == 3 ? p.words - 2 : kind == 4 && others ? 0 : p.words;
        if (kind != 1) {
            p.words = Math.max(0, counted);
            p.state = 2;
        }
        row(w, person, kind, p.words);
        return kind == 1 ? -1 : p.words;
    }

    private static int pass(World w, int hours) {
        int held = 0;
        for (int i = 0; i < hours; i++) {
            for (int person = 0; person < w.people.size(); person++) {
                Person p = w.people.get(person);
                if (p.state != 1) {
                    continue;
                }
                if (w.draw() % 100 < w.noise - 10 * p.guards) {
                    breakIn(w, person, w.draw() % 5);
                }
                if (p.state == 1) {
                    p.words = Math.min(p.oath.size(), p.words + p.breath);
                    if (p.words == p.oath.size()) {
                        p.state = 2;
                        row(w, person, 5, p.words);
                    }
                }
                if (p.state == 2) {
                    held++;
                    w.ears = Math.min(9999, w.ears + at(w, person, p.words).heard);
                }
            }
            w.hour = Math.min(9999, w.hour + 1);
        }
        return held;
    }

    private void act() {
        acts.addLast(w.copy());
        if (acts.size() > 12) {
            acts.removeFirst();
        }
    }

    public int hours(int n) {
        number(n, 1, 60);
        act();
        return pass(w, n);
    }

    public int begin(int person) {
        Person p = some(person);
        state(p, 0);
        act();
        p.state = 1;
        p.words = 0;
        return p.oath.size();
    }

    public int stop(int person, int kind) {
        Person p = some(person);
        number(kind, 0, 4);
        state(p, 1);
        act();
        return breakIn(w, person, kind);
    }

    public int finish(int person) {
        Person p = some(person);
        state(p, 1);
        act();
        p.state = 2;
        p.words = p.oath.size();
        row(w, person, 5, p.words);
        return at(w, person, p.words).weight;
    }

    public int retract(int person) {
        Person p = some(person);
        state(p, 2);
        act();
        row(w, person, 6, p.words);
        p.state = 0;
        return p.words;
    }

    public int guard(int person, int n) {
        Person p = some(person);
        number(n, 0, 9);
        act();
        int before = p.guards;
        p.guards = n;
        return before;
    }

    public int noise(int n) {
        number(n, 0, 100);
        act();
        int before = w.noise;
        w.noise = n;
        return before;
    }

    public int turn(int distance, int n) {
        distance(distance);
        number(n, 0, 2);
        act();
        int before = w.modes[distance];
        w.modes[distance] = n;
        return before;
    }

    public int repeat(int person, int other) {
        Person p = some(person);
        Person q = some(other);
        number(person == other ? 1 : 0, 0, 0);
        state(p, 0);
        act();
        p.oath = new ArrayList<>(q.oath);
        return p.oath.size();
    }

    public int order(int person, int k) {
        Person p = some(person);
        List<List<Word>> units = new ArrayList<>();
        int open = 0;
        for (Word word : p.oath) {
            if (open == 0) {
                units.add(new ArrayList<>());
            }
            units.get(units.size() - 1).add(word);
            open += word.kind == 8 ? 1 : word.kind == 9 ? -1 : 0;
        }
        if (units.size() > 6) {
            return -1;
        }
        List<Integer> best = null;
        int most = -1;
        for (List<Integer> order : orders(units.size())) {
            List<Word> words = new ArrayList<>();
            for (int unit : order) {
                words.addAll(units.get(unit));
            }
            int sure = sure(person, words);
            if (sure > most) {
                most = sure;
                best = order;
            }
        }
        return k == -1 ? most : k >= 0 && k < units.size() ? best.get(k) : -1;
    }

    private static List<List<Integer>> orders(int n) {
        List<List<Integer>> all = new ArrayList<>(List.of(List.of()));
        for (int i = 0; i < n; i++) {
            List<List<Integer>> longer = new ArrayList<>();
            for (List<Integer> order : all) {
                for (int unit = 0; unit < n; unit++) {
                    if (!order.contains(unit)) {
                        List<Integer> more = new ArrayList<>(order);
                        more.add(unit);
                        longer.add(more);
                    }
                }
            }
            all = longer;
        }
        return all;
    }

    private int chance(int odds, int guards) {
        return odds * (100 - Math.max(0, w.noise - 10 * guards)) / 100;
    }

    public int fence(int person, int q) {
        Person p = some(person);
        number(q, 0, 100);
        for (int guards = 0; guards <= 9; guards++) {
            int odds = 10000;
            for (int hour = 0; hour < need(p); hour++) {
                odds = chance(odds, guards);
            }
            if (odds >= 100 * q) {
                return guards;
            }
        }
        return -1;
    }

    private boolean against(int person, int other) {
        Clause a = held(person).c;
        Clause b = held(other).c;
        TreeSet<Integer> common = new TreeSet<>(a.tos);
        common.retainAll(b.tos);
        return a.verb != 0 && a.verb == b.verb && !common.isEmpty() && a.turned != b.turned;
    }

    public boolean gainsay(int person, int other) {
        some(person);
        some(other);
        number(person == other ? 1 : 0, 0, 0);
        return against(person, other);
    }

    private boolean calm(int set) {
        for (int a = 0; a < 6; a++) {
            for (int b = 0; b < a; b++) {
                if ((set >> a & set >> b & 1) == 1 && against(a, b)) {
                    return false;
                }
            }
        }
        return true;
    }

    public int peace() {
        for (int size = 6; size > 0; size--) {
            for (int set = 0; set < 64; set++) {
                if (Integer.bitCount(set) == size && (set & which(2)) == set && calm(set)) {
                    return set;
                }
            }
        }
        return 0;
    }

    public int quiet() {
        for (int size = 0; size < 6; size++) {
            for (int set = 0; set < 64; set++) {
                if (Integer.bitCount(set) == size && (set & which(2)) == set && calm(which(2) & ~set)) {
                    return set;
                }
            }
        }
        throw new AssertionError();
    }

    private List<Integer> rows() {
        List<Integer> rows = useTape();
        number(rows.size(), 0, 40);
        number(rows.size() % 2, 0, 0);
        for (int i = 0; i < rows.size(); i++) {
            number(rows.get(i), 0, i % 2 == 0 ? 11 : 10);
        }
        return rows;
    }

    private int kind(int person, int place) {
        List<Word> oath = w.people.get(person).oath;
        return place < oath.size() ? oath.get(place).kind : 10;
    }

    private int wrong(List<Integer> rows, int person) {
        int wrong = 0;
        for (int i = 0; i < rows.size(); i += 2) {
            wrong += kind(person, rows.get(i)) == rows.get(i + 1) ? 0 : 1;
        }
        return wrong;
    }

    private List<Integer> fitting(List<Integer> rows) {
        List<Integer> all = new ArrayList<>();
        for (int person = 0; person < w.people.size(); person++) {
            if (wrong(rows, person) < 2) {
                all.add(person);
            }
        }
        return all;
    }

    public int whose() {
        return bits(fitting(rows()));
    }

    public int likely() {
        List<Integer> rows = rows();
        List<Integer> fitting = fitting(rows);
        return fitting.stream().min(Comparator.comparing(person -> wrong(rows, person))).orElse(-1);
    }

    public int ask() {
        List<Integer> fitting = fitting(rows());
        for (int most = 1; most <= 6 && fitting.size() > 1; most++) {
            for (int place = 0; place < 12; place++) {
                int[] parts = new int[11];
                for (int person : fitting) {
                    parts[kind(person, place)]++;
                }
                if (Arrays.stream(parts).max().getAsInt() == most) {
                    return place;
                }
            }
        }
        return -1;
    }

    private int[] cough(int n) {
        List<Integer> numbers = useTape();
        number(numbers.size(), 0, 6);
        number(n, 0, 99);
        for (int number : numbers) {
            number(number, 1, 9);
        }
        int[] takes = new int[n + 1];
        for (int left = 0; left <= n; left++) {
            boolean can = false;
            takes[left] = -1;
            for (int number : new TreeSet<>(numbers)) {
                can |= number <= left;
                if (number <= left && takes[left - number] == -1 && takes[left] == -1) {
                    takes[left] = number;
                }
            }
            takes[left] = can ? takes[left] : 0;
        }
        return takes;
    }

    public boolean coughs(int n) {
        return cough(n)[n] >= 0;
    }

    public int first(int n) {
        int taken = cough(n)[n];
        return taken > 0 ? taken : -1;
    }

    public int pairs(int person) {
        if (person != -1) {
            some(person);
        }
        int n = w.people.size();
        int[] way = new int[n];
        Arrays.fill(way, -1);
        int[] best = way.clone();
        int most = 0;
        while (next(way)) {
            int alike = 0;
            boolean right = true;
            for (int i = 0; i < n; i++) {
                right &= way[i] == -1 || way[i] != i && way[way[i]] == i;
            }
            for (int i = 0; i < n && right; i++) {
                alike += way[i] > i ? alike(i, way[i]) : 0;
            }
            if (right && alike > most) {
                most = alike;
                best = way.clone();
            }
        }
        return person == -1 ? most : best[person];
    }

    /** The next way, person by person, the last one changing first. */
    private static boolean next(int[] way) {
        for (int i = way.length - 1; i >= 0; i--) {
            if (++way[i] < way.length) {
                return true;
            }
            way[i] = -1;
        }
        return false;
    }

    private int alike(int a, int b) {
        int alike = 0;
        for (int k = 0; k < 12; k++) {
            if (word(a, k, false) != -1 && word(a, k, false) == word(b, k, false) && word(a, k, true) == word(b, k, true)) {
                alike++;
            }
        }
        return alike;
    }

    public int rests(int person) {
        Person p = some(person);
        int[][] his = {{sure(person, p.oath), at(w, person, p.oath.size()).weight}, {2, 1}};
        int[][] rivals = {{3, 0}, {-p.guards, 1}};
        int bits = 0;
        for (int i = 0; i < 2; i++) {
            for (int j = 0; j < 2; j++) {
                if (his[1 - i][j] <= his[i][j] && rivals[i][1 - j] <= rivals[i][j]) {
                    bits |= 1 << 2 * i + j;
                }
            }
        }
        return bits;
    }

    public int odds(int n) {
        number(n, 0, 4);
        int odds = 10000;
        for (int hour = 0; hour < n; hour++) {
            for (Person p : w.people) {
                odds = p.state == 1 ? chance(odds, p.guards) : odds;
            }
        }
        return odds;
    }

    public int most(int what) {
        if (what < 0 || what > 2) {
            throw new NoSuchElementException();
        }
        int best = -1;
        int most = -1;
        for (int person = 0; person < w.people.size(); person++) {
            Person p = w.people.get(person);
            int n = what == 0 ? p.oath.size() : what == 1 ? held(person).weight : p.guards;
            if (n > most) {
                most = n;
                best = person;
            }
        }
        return best;
    }

    private static int which(World w, int state) {
        int bits = 0;
        for (int person = 0; person < w.people.size(); person++) {
            bits |= w.people.get(person).state == state ? 1 << person : 0;
        }
        return bits;
    }

    public int which(int what) {
        if (what < 0 || what > 2) {
            throw new NoSuchElementException();
        }
        return which(w, what);
    }

    public int twins() {
        int twins = 0;
        for (Person a : w.people) {
            for (Person b : w.people) {
                twins += a != b && a.oath.equals(b.oath) ? 1 : 0;
            }
        }
        return twins / 2;
    }

    public int trial(int n, boolean ears) {
        number(n, 0, 60);
        World then = w.copy();
        pass(then, n);
        return ears ? then.ears : which(then, 2);
    }

    public int span(int n, boolean most) {
        number(n, 0, 60);
        TreeSet<Integer> all = new TreeSet<>();
        for (int seed = 1; seed <= 6; seed++) {
            World then = w.copy();
            then.seed = seed;
            pass(then, n);
            all.add(then.ears);
        }
        return most ? all.last() : all.first();
    }

    public int led(int person, boolean hour) {
        some(person);
        int rows = 0;
        int latest = -1;
        for (Row row : w.log) {
            if (row.person == person) {
                rows++;
                latest = row.hour;
            }
        }
        return hour ? latest : rows;
    }

    public int log(int ago, int what) {
        if (what < 0 || what > 4) {
            throw new NoSuchElementException();
        }
        if (ago < 0 || ago >= w.log.size()) {
            return -1;
        }
        Row row = w.log.get(w.log.size() - 1 - ago);
        return new int[] {row.hour, row.person, row.what, row.words, row.weight}[what];
    }

    public int seed(int n) {
        int before = w.seed;
        w.seed = n;
        return before;
    }

    public boolean undo() {
        if (acts.isEmpty()) {
            return false;
        }
        w = acts.removeLast();
        return true;
    }

    public void image() {
        image = w.copy();
    }

    public boolean back() {
        if (image == null) {
            return false;
        }
        w = image.copy();
        acts.clear();
        return true;
    }

    public int count(int what) {
        switch (what) {
            case 0: return w.people.size();
            case 1: return w.texts;
            case 2: return w.law == null ? -1 : w.law.size();
            case 3: return w.noise;
            case 4: return w.hour;
            case 5: return w.ears;
            case 6: return w.people.stream().mapToInt(p -> p.oath.size()).sum();
            case 7: return w.people.stream().mapToInt(p -> p.guards).sum();
            case 8: return w.log.size();
            case 9: return acts.size();
            default: return -1;
        }
    }
}
