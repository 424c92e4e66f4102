import java.util.NoSuchElementException;

/** Hills in which a word is good till one is interrupted. */
public final class HalfOaths {
    public static final int NONE = -1;

    private static final int MOST_BYTES = 400;
    private static final int FEED_BYTES = 20;
    private static final int MOST_TEXTS = 12;
    private static final int MOST_HILLS_LINES = 14;
    private static final int MOST_LAW_LINES = 12;
    private static final int MOST_LAW_NUMBER = 40;
    private static final int MOST_DEEP = 6;

    private static final int MOST_PEOPLE = 6;
    private static final int MOST_WORDS = 12;
    private static final int MOST_WITHIN = 3;
    private static final int MOST_GUARDS = 9;
    private static final int MOST_UNITS = 6;
    private static final int MODES = 4;
    private static final int MOST_SUM = 99;
    private static final int NO_BY = 10;
    private static final int MOST_HOURS = 60;
    private static final int MOST_TOLD = 9999;
    private static final int MOST_ODDS_HOURS = 4;
    private static final int WHOLE_ODDS = 10000;
    private static final int SPAN_SEEDS = 6;

    private static final int GIVE = 0;
    private static final int WED = 2;
    private static final int SUM = 3;
    private static final int IF = 4;
    private static final int NOT = 5;
    private static final int BY = 6;
    private static final int TO = 7;
    private static final int OPEN = 8;
    private static final int SHUT = 9;
    private static final int NO_WORD = 10;

    private static final int SILENT = 0;
    private static final int SPEAKING = 1;
    private static final int HELD = 2;

    private static final int DROPPED = 0;
    private static final int TURNED = 2;

    private static final int COUGH = 0;
    private static final int DOG = 1;
    private static final int BELL = 2;
    private static final int KISS = 3;
    private static final int ANOTHER = 4;
    private static final int FINISHED = 5;
    private static final int TAKEN_BACK = 6;

    private static final int LOG_ROWS = 60;
    private static final int LOG_FIELDS = 5;
    private static final int MOST_ACTS = 12;

    // what reading() tells, by number
    private static final int TOLD_VERB = 0;
    private static final int TOLD_SUM = 1;
    private static final int TOLD_IFS = 2;
    private static final int TOLD_BY = 3;
    private static final int TOLD_TOS = 4;
    private static final int TOLD_TURNED = 5;
    private static final int TOLD_WEIGHT = 6;
    private static final int TOLD_HEARD = 7;
    private static final int TOLD_FIELDS = 8;

    // what the law can ask of a reading, by number
    private static final int FACT_PERSON = 0;
    private static final int FACT_VERB = 1;
    private static final int FACT_SUM = 2;
    private static final int FACT_IFS = 3;
    private static final int FACT_BY = 4;
    private static final int FACT_TOS = 5;
    private static final int FACT_COUNT = 6;
    private static final int FACT_WHOLE = 7;
    private static final int FACT_TURNED = 8;
    private static final int FACT_EMPTY = 9;
    private static final int FACTS = 10;

    // steps of the law: each stands as its number times STEP, and a value below STEP
    private static final int STEP = 1000;
    private static final int STEP_NUMBER = 0;
    private static final int STEP_FACT = 1;
    private static final int STEP_ADD = 2;
    private static final int STEP_LESS = 3;
    private static final int STEP_MORE = 4;
    private static final int STEP_NOT = 5;
    private static final int STEP_AND = 6;
    private static final int STEP_OR = 7;
    private static final int STEP_WEIGH = 8;
    private static final int STEP_EASE = 9;
    private static final int STEP_HEAR = 10;
    private static final int LAW_STACK = 32;

    private static final int MOST_ROW_BYTES = 40;
    private static final int MOST_WRONG_ROWS = 1;
    private static final int MOST_COUGHS = 6;
    private static final int MOST_COUGH = 9;
    private static final int MOST_BREATHS = 99;

    private static final Sign[] SIGNS = Sign.values();

    private final Tape tape;
    private final Text text;
    private final Hills now;
    private final Hills draft;
    private final Hills imageHills;
    private final Law law;
    private final Law draftLaw;
    private final Law imageLaw;
    private final Hills[] acts;
    private final Scales scales;
    private final Course course;
    private final Orders orders;
    private final Pairs pairing;
    private final int[] against;
    private int oldestAct;
    private int actCount;
    private boolean imageKept;
    private int wrongByte;

    public HalfOaths() {
        tape = new Tape();
        text = new Text();
        now = new Hills();
        draft = new Hills();
        imageHills = new Hills();
        law = new Law();
        draftLaw = new Law();
        imageLaw = new Law();
        acts = new Hills[MOST_ACTS];
        for (int i = 0; i < acts.length; i++) {
            acts[i] = new Hills();
        }
        scales = new Scales(law);
        course = new Course(scales);
        orders = new Orders(scales);
        pairing = new Pairs();
        against = new int[MOST_PEOPLE];
        oldestAct = 0;
        actCount = 0;
        imageKept = false;
        wrongByte = NONE;
    }

    // ---- the tape and the texts

    public int feed(int a, int b, int c, int d, int e) {
        if (tape.length + FEED_BYTES > MOST_BYTES) {
            return NONE;
        }
        tape.push(a);
        tape.push(b);
        tape.push(c);
        tape.push(d);
        tape.push(e);
        return tape.length;
    }

    public boolean end(int n) {
        if (n < 0 || n > tape.length) {
            return false;
        }
        tape.length = n;
        return true;
    }

    public int hills() throws IllegalArgumentException, UnsupportedOperationException {
        scanTape();
        draft.copy(now);
        if (!HillsReader.readText(text, draft)) {
            wrongByte = text.start;
            throw new IllegalArgumentException("the text of the hills is wrong");
        }
        if (now.texts >= MOST_TEXTS) {
            throw new UnsupportedOperationException("there are twelve texts");
        }
        draft.texts++;
        now.copy(draft);
        actCount = 0;
        return now.texts;
    }

    public int law() throws IllegalArgumentException {
        scanTape();
        if (!draftLaw.readText(text)) {
            wrongByte = text.start;
            throw new IllegalArgumentException("the text of the law is wrong");
        }
        law.copy(draftLaw);
        actCount = 0;
        return law.lines;
    }

    public int fault() {
        return wrongByte;
    }

    private void scanTape() {
        text.scan(tape.bytes, tape.takeUp());
        wrongByte = NONE;
    }

    // ---- what is told of people and readings

    public int person(int person, int what) throws IndexOutOfBoundsException, NoSuchElementException {
        needPerson(person);
        switch (what) {
            case 0:
                return cell(now.lengths, person);
            case 1:
                return cell(now.breaths, person);
            case 2:
                return cell(now.guards, person);
            case 3:
                return cell(now.states, person);
            case 4:
                return cell(now.counts, person);
            case 5:
                return worstPlace(person);
            case 6:
                return bestPlace(person);
            case 7:
                return scales.weight(now, person, worstPlace(person));
            case 8:
                return now.hoursNeed(person);
            case 9:
                return goingOf(person);
            case 10:
                return shareOf(person);
            default:
                throw new NoSuchElementException("a person has no such thing");
        }
    }

    public int word(int person, int k, boolean n) throws IndexOutOfBoundsException {
        needPerson(person);
        if (k < 0 || k >= cell(now.lengths, person)) {
            return NONE;
        }
        int code = now.wordAt(person, k);
        return n ? code % 10 : code / 10;
    }

    public int reading(int person, int k, int what)
            throws IndexOutOfBoundsException, IllegalArgumentException, NoSuchElementException {
        needPerson(person);
        if (k < 0 || k > cell(now.lengths, person)) {
            throw new IllegalArgumentException("so many words there are not");
        }
        return toldOf(person, k, what);
    }

    public int hold(int person, int what) throws IndexOutOfBoundsException, NoSuchElementException {
        needPerson(person);
        return toldOf(person, now.heldCount(person), what);
    }

    public int mode(int distance) throws IndexOutOfBoundsException {
        needDistance(distance);
        return cell(now.modes, distance);
    }

    private void needPerson(int person) {
        if (!now.has(person)) {
            throw new IndexOutOfBoundsException("there is no such person");
        }
    }

    private static void needDistance(int distance) {
        if (distance < 0 || distance >= MODES) {
            throw new IndexOutOfBoundsException("there is no such distance");
        }
    }

    private static void needNumber(int n, int least, int most) {
        if (n < least || n > most) {
            throw new IllegalArgumentException("the number is none");
        }
    }

    private void needState(int person, int state) {
        if (cell(now.states, person) != state) {
            throw new IllegalStateException("it cannot be");
        }
    }

    private static void needTwo(int person, int other) {
        if (person == other) {
            throw new IllegalArgumentException("both are one");
        }
    }

    private int toldOf(int person, int count, int what) {
        if (what < 0 || what >= TOLD_FIELDS) {
            throw new NoSuchElementException("a reading has no such thing");
        }
        scales.weight(now, person, count);
        return cell(scales.told, what);
    }

    private int worstPlace(int person) {
        int worst = 1;
        int least = scales.weight(now, person, 1);
        for (int k = 2; k <= cell(now.lengths, person); k++) {
            int weight = scales.weight(now, person, k);
            if (weight < least) {
                least = weight;
                worst = k;
            }
        }
        return worst;
    }

    private int bestPlace(int person) {
        int best = 1;
        int most = scales.weight(now, person, 1);
        for (int k = 2; k <= cell(now.lengths, person); k++) {
            int weight = scales.weight(now, person, k);
            if (weight > most) {
                most = weight;
                best = k;
            }
        }
        return best;
    }

    private int goingOf(int person) {
        if (cell(now.states, person) != SPEAKING) {
            return 0;
        }
        int said = cell(now.counts, person);
        int bits = 0;
        for (int other = 0; other < now.people; other++) {
            if (now.alikeFirst(person, other) >= said) {
                bits |= 1 << other;
            }
        }
        return bits;
    }

    private int shareOf(int person) {
        int all = 0;
        for (int other = 0; other < now.people; other++) {
            all += heldWeight(other);
        }
        return all == 0 ? 0 : 100 * heldWeight(person) / all;
    }

    private int heldWeight(int person) {
        return scales.weight(now, person, now.heldCount(person));
    }

    // ---- the acts

    public int hours(int n) throws IllegalArgumentException {
        needNumber(n, 1, MOST_HOURS);
        rememberAct();
        return course.passHours(now, n);
    }

    public int begin(int person) throws IndexOutOfBoundsException, IllegalStateException {
        needPerson(person);
        needState(person, SILENT);
        rememberAct();
        now.settle(person, SPEAKING, 0);
        return cell(now.lengths, person);
    }

    public int stop(int person, int kind)
            throws IndexOutOfBoundsException, IllegalArgumentException, IllegalStateException {
        needPerson(person);
        needNumber(kind, COUGH, ANOTHER);
        needState(person, SPEAKING);
        rememberAct();
        return course.breakIn(now, person, kind);
    }

    public int finish(int person) throws IndexOutOfBoundsException, IllegalStateException {
        needPerson(person);
        needState(person, SPEAKING);
        rememberAct();
        return course.letFinish(now, person);
    }

    public int retract(int person) throws IndexOutOfBoundsException, IllegalStateException {
        needPerson(person);
        needState(person, HELD);
        rememberAct();
        int counted = cell(now.counts, person);
        now.note(person, TAKEN_BACK, counted, scales.weight(now, person, counted));
        now.settle(person, SILENT, 0);
        return counted;
    }

    public int guard(int person, int n) throws IndexOutOfBoundsException, IllegalArgumentException {
        needPerson(person);
        needNumber(n, 0, MOST_GUARDS);
        rememberAct();
        int before = cell(now.guards, person);
        put(now.guards, person, n);
        return before;
    }

    public int noise(int n) throws IllegalArgumentException {
        needNumber(n, 0, 100);
        rememberAct();
        int before = now.noise;
        now.noise = n;
        return before;
    }

    public int turn(int distance, int n) throws IndexOutOfBoundsException, IllegalArgumentException {
        needDistance(distance);
        needNumber(n, DROPPED, TURNED);
        rememberAct();
        int before = cell(now.modes, distance);
        put(now.modes, distance, n);
        return before;
    }

    public int repeat(int person, int other)
            throws IndexOutOfBoundsException, IllegalArgumentException, IllegalStateException {
        needPerson(person);
        needPerson(other);
        needTwo(person, other);
        needState(person, SILENT);
        rememberAct();
        now.copyOath(person, other);
        return cell(now.lengths, person);
    }

    private Hills actAt(int k) {
        int i = (oldestAct + k) % MOST_ACTS;
        return i >= 0 && i < acts.length ? acts[i] : null;
    }

    private void rememberAct() {
        if (actCount == MOST_ACTS) {
            oldestAct = (oldestAct + 1) % MOST_ACTS;
            actCount--;
        }
        Hills ahead = actAt(actCount);
        if (ahead != null) {
            ahead.copy(now);
            actCount++;
        }
    }

    // ---- orders, fences and gainsaying

    public int order(int person, int k) throws IndexOutOfBoundsException {
        needPerson(person);
        if (!orders.find(now, person)) {
            return NONE;
        }
        if (k == NONE) {
            return orders.best;
        }
        return k >= 0 && k < orders.units ? cell(orders.bestPlaces, k) : NONE;
    }

    public int fence(int person, int q) throws IndexOutOfBoundsException, IllegalArgumentException {
        needPerson(person);
        needNumber(q, 0, 100);
        int need = now.hoursNeed(person);
        for (int guards = 0; guards <= MOST_GUARDS; guards++) {
            int odds = WHOLE_ODDS;
            for (int hour = 0; hour < need; hour++) {
                odds = now.oddsBehind(odds, guards);
            }
            if (odds >= 100 * q) {
                return guards;
            }
        }
        return NONE;
    }

    public boolean gainsay(int person, int other) throws IndexOutOfBoundsException, IllegalArgumentException {
        needPerson(person);
        needPerson(other);
        needTwo(person, other);
        return areAtOdds(person, other);
    }

    public int peace() {
        int held = now.bitsOf(HELD);
        fillAgainst();
        int best = 0;
        for (int set = 1; set < 1 << MOST_PEOPLE; set++) {
            boolean larger = Integer.bitCount(set) > Integer.bitCount(best);
            if ((set & ~held) == 0 && larger && isPeaceful(set)) {
                best = set;
            }
        }
        return best;
    }

    public int quiet() {
        int held = now.bitsOf(HELD);
        fillAgainst();
        int best = held;
        for (int set = 0; set < 1 << MOST_PEOPLE; set++) {
            boolean fewer = Integer.bitCount(set) < Integer.bitCount(best);
            if ((set & ~held) == 0 && fewer && isPeaceful(held & ~set)) {
                best = set;
            }
        }
        return best;
    }

    private boolean areAtOdds(int person, int other) {
        if (cell(now.states, person) != HELD || cell(now.states, other) != HELD) {
            return false;
        }
        heldWeight(person);
        int verb = cell(scales.told, TOLD_VERB);
        int tos = cell(scales.told, TOLD_TOS);
        int turned = cell(scales.told, TOLD_TURNED);
        heldWeight(other);
        return verb != 0 && verb == cell(scales.told, TOLD_VERB)
            && (tos & cell(scales.told, TOLD_TOS)) != 0
            && turned != cell(scales.told, TOLD_TURNED);
    }

    private void fillAgainst() {
        for (int person = 0; person < MOST_PEOPLE; person++) {
            int bits = 0;
            for (int other = 0; other < MOST_PEOPLE; other++) {
                if (other != person && areAtOdds(person, other)) {
                    bits |= 1 << other;
                }
            }
            put(against, person, bits);
        }
    }

    private boolean isPeaceful(int set) {
        for (int person = 0; person < MOST_PEOPLE; person++) {
            if ((set >> person & 1) != 0 && (set & cell(against, person)) != 0) {
                return false;
            }
        }
        return true;
    }

    // ---- whose oath it was, and coughs

    public int whose() throws IllegalArgumentException {
        return fittingBits(takeHeardRows());
    }

    public int likely() throws IllegalArgumentException {
        int bytes = takeHeardRows();
        int best = NONE;
        int fewest = MOST_WRONG_ROWS + 1;
        for (int person = 0; person < now.people; person++) {
            int wrong = wrongRows(person, bytes);
            if (wrong < fewest) {
                fewest = wrong;
                best = person;
            }
        }
        return best;
    }

    public int ask() throws IllegalArgumentException {
        int fitting = fittingBits(takeHeardRows());
        if (Integer.bitCount(fitting) < 2) {
            return NONE;
        }
        int best = 0;
        int least = MOST_PEOPLE + 1;
        for (int place = 0; place < MOST_WORDS; place++) {
            int greatest = greatestPart(fitting, place);
            if (greatest < least) {
                least = greatest;
                best = place;
            }
        }
        return best;
    }

    public boolean coughs(int n) throws IllegalArgumentException {
        return bestCough(takeCoughs(n), n) != NONE;
    }

    public int first(int n) throws IllegalArgumentException {
        int taken = bestCough(takeCoughs(n), n);
        return taken > 0 ? taken : NONE;
    }

    /** How many bytes of rows were told; these stand in the tape's bytes until the next feed. */
    private int takeHeardRows() {
        int bytes = tape.takeUp();
        boolean right = bytes <= MOST_ROW_BYTES && bytes % 2 == 0;
        for (int i = 0; i < bytes; i += 2) {
            right = right && cell(tape.bytes, i) < MOST_WORDS && cell(tape.bytes, i + 1) <= NO_WORD;
        }
        if (!right) {
            throw new IllegalArgumentException("the tape tells no rows");
        }
        return bytes;
    }

    private int wrongRows(int person, int bytes) {
        int wrong = 0;
        for (int i = 0; i < bytes; i += 2) {
            if (now.kindAt(person, cell(tape.bytes, i)) != cell(tape.bytes, i + 1)) {
                wrong++;
            }
        }
        return wrong;
    }

    private int fittingBits(int bytes) {
        int bits = 0;
        for (int person = 0; person < now.people; person++) {
            if (wrongRows(person, bytes) <= MOST_WRONG_ROWS) {
                bits |= 1 << person;
            }
        }
        return bits;
    }

    private int greatestPart(int fitting, int place) {
        int greatest = 0;
        for (int kind = 0; kind <= NO_WORD; kind++) {
            int part = 0;
            for (int person = 0; person < now.people; person++) {
                if ((fitting >> person & 1) != 0 && now.kindAt(person, place) == kind) {
                    part++;
                }
            }
            greatest = Math.max(greatest, part);
        }
        return greatest;
    }

    /** The numbers told, number m as bit m. */
    private int takeCoughs(int n) {
        int bytes = tape.takeUp();
        boolean right = bytes <= MOST_COUGHS && n >= 0 && n <= MOST_BREATHS;
        int numbers = 0;
        for (int i = 0; i < bytes; i++) {
            int number = cell(tape.bytes, i);
            right = right && number >= 1 && number <= MOST_COUGH;
            numbers |= 1 << (number & 15);
        }
        if (!right) {
            throw new IllegalArgumentException("the tape tells no coughs, or so many breaths there are not");
        }
        return numbers;
    }

    /** The least number by which the first one wins, 0 if it wins as it cannot cough, NONE if it loses. */
    private static int bestCough(int numbers, int n) {
        // bit m of lost: with m breaths fewer the one whose turn it is loses
        int lost = 0;
        int taken = 0;
        for (int left = 0; left <= n; left++) {
            int usable = left >= MOST_COUGH ? numbers : numbers & (1 << (left + 1)) - 1;
            int winning = usable & lost;
            if (usable == 0) {
                taken = 0;
            } else {
                taken = leastBit(winning);
            }
            lost = (lost | (taken == NONE ? 1 : 0)) << 1;
        }
        return taken;
    }

    private static int leastBit(int bits) {
        for (int i = 0; i <= MOST_COUGH; i++) {
            if ((bits >> i & 1) != 0) {
                return i;
            }
        }
        return NONE;
    }

    // ---- pairs, rests, odds and who is the most

    public int pairs(int person) throws IndexOutOfBoundsException {
        if (person != NONE) {
            needPerson(person);
        }
        pairing.find(now);
        return person == NONE ? pairing.most : cell(pairing.best, person);
    }

    public int rests(int person) throws IndexOutOfBoundsException {
        needPerson(person);
        int sure = scales.weight(now, person, worstPlace(person));
        int whole = scales.weight(now, person, cell(now.lengths, person));
        int vain = -cell(now.guards, person);
        int bits = 0;
        for (int choice = 0; choice < 4; choice++) {
            boolean speakerRests = oneOf(choice, sure, whole, 2, 1) >= oneOf(choice ^ 2, sure, whole, 2, 1);
            boolean rivalRests = oneOf(choice, 3, 0, vain, 1) >= oneOf(choice ^ 1, 3, 0, vain, 1);
            if (speakerRests && rivalRests) {
                bits |= 1 << choice;
            }
        }
        return bits;
    }

    /** What a choice (2 times the speaker's and the rival's) is worth. */
    private static int oneOf(int choice, int goingOnCoughed, int goingOn, int stoppingCoughed, int still) {
        switch (choice) {
            case 0:
                return goingOnCoughed;
            case 1:
                return goingOn;
            case 2:
                return stoppingCoughed;
            default:
                return still;
        }
    }

    public int odds(int n) throws IllegalArgumentException {
        needNumber(n, 0, MOST_ODDS_HOURS);
        int odds = WHOLE_ODDS;
        for (int hour = 0; hour < n; hour++) {
            for (int person = 0; person < now.people; person++) {
                if (cell(now.states, person) == SPEAKING) {
                    odds = now.oddsBehind(odds, cell(now.guards, person));
                }
            }
        }
        return odds;
    }

    public int most(int what) throws NoSuchElementException {
        if (what < 0 || what > 2) {
            throw new NoSuchElementException("there is no such most");
        }
        int best = NONE;
        int most = NONE;
        for (int person = 0; person < now.people; person++) {
            int much = what == 0 ? cell(now.lengths, person)
                : what == 1 ? heldWeight(person) : cell(now.guards, person);
            if (much > most) {
                most = much;
                best = person;
            }
        }
        return best;
    }

    public int which(int what) throws NoSuchElementException {
        if (what < SILENT || what > HELD) {
            throw new NoSuchElementException("nobody is so");
        }
        return now.bitsOf(what);
    }

    public int twins() {
        int twins = 0;
        for (int person = 0; person < now.people; person++) {
            for (int other = person + 1; other < now.people; other++) {
                int length = cell(now.lengths, person);
                if (length == cell(now.lengths, other) && now.alikeFirst(person, other) == length) {
                    twins++;
                }
            }
        }
        return twins;
    }

    // ---- trials, spans and the log

    public int trial(int n, boolean ears) throws IllegalArgumentException {
        needNumber(n, 0, MOST_HOURS);
        draft.copy(now);
        course.passHours(draft, n);
        return ears ? draft.ears : draft.bitsOf(HELD);
    }

    public int span(int n, boolean most) throws IllegalArgumentException {
        needNumber(n, 0, MOST_HOURS);
        int found = NONE;
        for (int seed = 1; seed <= SPAN_SEEDS; seed++) {
            draft.copy(now);
            draft.seed = seed;
            course.passHours(draft, n);
            boolean better = most ? draft.ears > found : draft.ears < found;
            if (found == NONE || better) {
                found = draft.ears;
            }
        }
        return found;
    }

    public int led(int person, boolean hour) throws IndexOutOfBoundsException {
        needPerson(person);
        int rows = 0;
        int latest = NONE;
        for (int row = 0; row < now.logged; row++) {
            if (cell(now.log, row * LOG_FIELDS + 1) == person) {
                rows++;
                latest = cell(now.log, row * LOG_FIELDS);
            }
        }
        return hour ? latest : rows;
    }

    public int log(int ago, int what) throws NoSuchElementException {
        if (what < 0 || what >= LOG_FIELDS) {
            throw new NoSuchElementException("a row has no such thing");
        }
        if (ago < 0 || ago >= now.logged) {
            return NONE;
        }
        return cell(now.log, (now.logged - 1 - ago) * LOG_FIELDS + what);
    }

    public int seed(int n) {
        int before = now.seed;
        now.seed = n;
        return before;
    }

    // ---- acts undone, the image, and counts

    public boolean undo() {
        if (actCount == 0) {
            return false;
        }
        Hills ahead = actAt(actCount - 1);
        if (ahead == null) {
            return false;
        }
        now.copy(ahead);
        actCount--;
        return true;
    }

    public void image() {
        imageHills.copy(now);
        imageLaw.copy(law);
        imageKept = true;
    }

    public boolean back() {
        if (!imageKept) {
            return false;
        }
        now.copy(imageHills);
        law.copy(imageLaw);
        actCount = 0;
        return true;
    }

    public int count(int what) {
        switch (what) {
            case 0:
                return now.people;
            case 1:
                return now.texts;
            case 2:
                return law.told ? law.lines : NONE;
            case 3:
                return now.noise;
            case 4:
                return now.hour;
            case 5:
                return now.ears;
            case 6:
                return sumOf(now.lengths);
            case 7:
                return sumOf(now.guards);
            case 8:
                return now.logged;
            case 9:
                return actCount;
            default:
                return NONE;
        }
    }

    private int sumOf(int[] row) {
        int sum = 0;
        for (int person = 0; person < now.people; person++) {
            sum += cell(row, person);
        }
        return sum;
    }

    // ---- rows: no index is used that was not looked at

    private static int cell(int[] row, int i) {
        return i >= 0 && i < row.length ? row[i] : 0;
    }

    private static void put(int[] row, int i, int value) {
        if (i >= 0 && i < row.length) {
            row[i] = value;
        }
    }

    /** What a text is made of: words (with the KIND of a WORD and the fact that the law asks by it) and marks. */
    private enum Sign {
        GIVE_WORD("give", GIVE, NONE),
        GO_WORD("go", 1, NONE),
        WED_WORD("wed", WED, NONE),
        SUM_WORD("sum", SUM, FACT_SUM),
        IF_WORD("if", IF, NONE),
        NOT_WORD("not", NOT, NONE),
        BY_WORD("by", BY, FACT_BY),
        TO_WORD("to", TO, NONE),
        OPEN_WORD("open", OPEN, NONE),
        SHUT_WORD("shut", SHUT, NONE),
        OATH("oath", NONE, NONE),
        BREATH("breath", NONE, NONE),
        GUARDS("guards", NONE, NONE),
        MODE("mode", NONE, NONE),
        NOISE("noise", NONE, NONE),
        HOUR("hour", NONE, NONE),
        EARS("ears", NONE, NONE),
        WEIGH("weigh", NONE, NONE),
        EASE("ease", NONE, NONE),
        HEAR("hear", NONE, NONE),
        OR("or", NONE, NONE),
        AND("and", NONE, NONE),
        WHOLE("whole", NONE, FACT_WHOLE),
        TURNED_WORD("turned", NONE, FACT_TURNED),
        EMPTY("empty", NONE, FACT_EMPTY),
        PERSON("person", NONE, FACT_PERSON),
        VERB("verb", NONE, FACT_VERB),
        IFS("ifs", NONE, FACT_IFS),
        TOS("tos", NONE, FACT_TOS),
        COUNT("count", NONE, FACT_COUNT),
        NEXT_LINE(";", NONE, NONE),
        LEFT("(", NONE, NONE),
        RIGHT(")", NONE, NONE),
        LESS("<", NONE, NONE),
        MORE(">", NONE, NONE),
        PLUS("+", NONE, NONE),
        NUMBER("", NONE, NONE),
        TEXT_END("", NONE, NONE),
        WRONG("", NONE, NONE);

        private final String spelling;
        private final int kind;
        private final int fact;

        Sign(String spelling, int kind, int fact) {
            this.spelling = spelling;
            this.kind = kind;
            this.fact = fact;
        }

        boolean isFlag() {
            return fact == FACT_WHOLE || fact == FACT_TURNED || fact == FACT_EMPTY;
        }
    }

    /** The bytes that were fed and not used up yet. */
    private static final class Tape {
        private final int[] bytes;
        private int length;

        Tape() {
            bytes = new int[MOST_BYTES];
            length = 0;
        }

        void push(int number) {
            for (int shift = 24; shift >= 0; shift -= 8) {
                put(bytes, length, number >>> shift & 255);
                length++;
            }
        }

        int takeUp() {
            int taken = length;
            length = 0;
            return taken;
        }
    }

    /** The signs of a text one behind another; a reader that fails stands at what cannot stand there. */
    private static final class Text {
        private final Sign[] signs;
        private final int[] starts;
        private final int[] values;
        private int at;
        private Sign sign;
        private int start;
        private int value;

        Text() {
            signs = new Sign[MOST_BYTES + 1];
            starts = new int[MOST_BYTES + 1];
            values = new int[MOST_BYTES + 1];
            at = 0;
            sign = Sign.TEXT_END;
            start = 0;
            value = 0;
        }

        void scan(int[] bytes, int length) {
            int found = 0;
            for (int i = 0; i < length; i++) {
                if (beginsSign(bytes, i)) {
                    int stop = endOf(bytes, i, length);
                    addSign(found, signOf(bytes, i, stop), i);
                    put(values, found, isDigit(cell(bytes, i)) ? numberOf(bytes, i, stop) : 0);
                    found++;
                }
            }
            addSign(found, Sign.TEXT_END, length);
            at = NONE;
            step();
        }

        void step() {
            at++;
            Sign next = at >= 0 && at < signs.length ? signs[at] : null;
            if (next != null) {
                sign = next;
                start = cell(starts, at);
                value = cell(values, at);
            }
        }

        boolean tells(int least, int most) {
            return sign == Sign.NUMBER && value >= least && value <= most;
        }

        private void addSign(int i, Sign found, int begin) {
            if (i >= 0 && i < signs.length) {
                signs[i] = found;
            }
            put(starts, i, begin);
        }

        private static boolean isLetter(int c) {
            return c >= 'a' && c <= 'z';
        }

        private static boolean isDigit(int c) {
            return c >= '0' && c <= '9';
        }

        private static boolean goOn(int before, int behind) {
            return isLetter(before) && isLetter(behind) || isDigit(before) && isDigit(behind);
        }

        private static boolean beginsSign(int[] bytes, int i) {
            int c = cell(bytes, i);
            return c != ' ' && (i == 0 || !goOn(cell(bytes, i - 1), c));
        }

        private static int endOf(int[] bytes, int begin, int length) {
            int stop = begin + 1;
            while (stop < length && goOn(cell(bytes, stop - 1), cell(bytes, stop))) {
                stop++;
            }
            return stop;
        }

        private static int numberOf(int[] bytes, int begin, int stop) {
            int number = 0;
            for (int i = begin; i < stop; i++) {
                number = number * 10 + cell(bytes, i) - '0';
            }
            return number;
        }

        private static Sign signOf(int[] bytes, int begin, int stop) {
            if (isDigit(cell(bytes, begin))) {
                return stop - begin <= 3 ? Sign.NUMBER : Sign.WRONG;
            }
            for (Sign sign : SIGNS) {
                if (spells(sign.spelling, bytes, begin, stop)) {
                    return sign;
                }
            }
            return Sign.WRONG;
        }

        private static boolean spells(String spelling, int[] bytes, int begin, int stop) {
            if (spelling.length() != stop - begin) {
                return false;
            }
            for (int i = 0; i < spelling.length(); i++) {
                if (spelling.charAt(i) != cell(bytes, begin + i)) {
                    return false;
                }
            }
            return true;
        }
    }

    /** Reads a text of the hills into a draft of these. */
    private static final class HillsReader {
        static boolean readText(Text in, Hills hills) {
            if (in.sign == Sign.TEXT_END) {
                return true;
            }
            for (int line = 0; line < MOST_HILLS_LINES; line++) {
                if (!readLine(in, hills)) {
                    return false;
                }
                if (in.sign == Sign.TEXT_END) {
                    return true;
                }
                if (in.sign != Sign.NEXT_LINE) {
                    return false;
                }
                in.step();
            }
            return false;
        }

        private static boolean readLine(Text in, Hills hills) {
            Sign begin = in.sign;
            if (begin == Sign.OATH) {
                return readOath(in, hills);
            }
            if (begin == Sign.MODE) {
                return readMode(in, hills);
            }
            if (begin != Sign.NOISE && begin != Sign.HOUR && begin != Sign.EARS) {
                return false;
            }
            in.step();
            if (!in.tells(0, begin == Sign.NOISE ? 100 : 999)) {
                return false;
            }
            if (begin == Sign.NOISE) {
                hills.noise = in.value;
            } else if (begin == Sign.HOUR) {
                hills.hour = in.value;
            } else {
                hills.ears = in.value;
            }
            in.step();
            return true;
        }

        private static boolean readMode(Text in, Hills hills) {
            in.step();
            if (!in.tells(0, MODES - 1)) {
                return false;
            }
            int distance = in.value;
            in.step();
            if (!in.tells(DROPPED, TURNED)) {
                return false;
            }
            put(hills.modes, distance, in.value);
            in.step();
            return true;
        }

        private static boolean readOath(Text in, Hills hills) {
            int person = hills.people;
            if (person >= MOST_PEOPLE) {
                return false;
            }
            in.step();
            if (!readWords(in, hills, person)) {
                return false;
            }
            put(hills.breaths, person, 1);
            put(hills.guards, person, 0);
            hills.settle(person, SILENT, 0);
            hills.people++;
            return readExtra(in, Sign.BREATH, 1, hills.breaths, person)
                && readExtra(in, Sign.GUARDS, 0, hills.guards, person);
        }

        private static boolean readExtra(Text in, Sign name, int least, int[] row, int person) {
            if (in.sign != name) {
                return true;
            }
            in.step();
            if (!in.tells(least, 9)) {
                return false;
            }
            put(row, person, in.value);
            in.step();
            return true;
        }

        private static boolean readWords(Text in, Hills hills, int person) {
            int words = 0;
            int within = 0;
            while (words < MOST_WORDS && in.sign.kind != NONE) {
                int kind = in.sign.kind;
                if (kind == SHUT && within == 0 || kind == OPEN && within == MOST_WITHIN) {
                    return false;
                }
                within += kind == OPEN ? 1 : kind == SHUT ? -1 : 0;
                in.step();
                int n = 0;
                if (kind == SUM || kind == IF || kind == BY || kind == TO) {
                    if (!in.tells(0, 9)) {
                        return false;
                    }
                    n = in.value;
                    in.step();
                }
                put(hills.words, person * MOST_WORDS + words, kind * 10 + n);
                words++;
            }
            put(hills.lengths, person, words);
            return words > 0 && within == 0 && in.sign.kind == NONE;
        }
    }

    /** Lines of weighing, easing and hearing, as steps of a small machine with a stack. */
    private static final class Law {
        private final int[] steps;
        private final int[] stack;
        private int stepCount;
        private int lines;
        private boolean told;
        private int weighs;
        private int eases;
        private int hears;

        Law() {
            steps = new int[MOST_BYTES];
            stack = new int[LAW_STACK];
            stepCount = 0;
            lines = 0;
            told = false;
            weighs = 0;
            eases = 0;
            hears = 0;
        }

        void copy(Law other) {
            System.arraycopy(other.steps, 0, steps, 0, steps.length);
            stepCount = other.stepCount;
            lines = other.lines;
            told = other.told;
        }

        boolean readText(Text in) {
            stepCount = 0;
            lines = 0;
            told = true;
            if (in.sign == Sign.TEXT_END) {
                return true;
            }
            while (lines < MOST_LAW_LINES) {
                int step = lineStep(in.sign);
                if (step == NONE) {
                    return false;
                }
                in.step();
                if (!in.tells(0, MOST_LAW_NUMBER)) {
                    return false;
                }
                int n = in.value;
                in.step();
                if (in.sign != Sign.IF_WORD) {
                    emit(STEP_NUMBER, 1);
                } else {
                    in.step();
                    if (!readAny(this, in, 0)) {
                        return false;
                    }
                }
                emit(step, n);
                lines++;
                if (in.sign == Sign.TEXT_END) {
                    return true;
                }
                if (in.sign != Sign.NEXT_LINE) {
                    return false;
                }
                in.step();
            }
            return false;
        }

        private static int lineStep(Sign name) {
            if (name == Sign.WEIGH) {
                return STEP_WEIGH;
            }
            if (name == Sign.EASE) {
                return STEP_EASE;
            }
            return name == Sign.HEAR ? STEP_HEAR : NONE;
        }

        private static boolean readAny(Law law, Text in, int deep) {
            if (!readAll(law, in, deep)) {
                return false;
            }
            for (int i = 0; i < MOST_BYTES && in.sign == Sign.OR; i++) {
                in.step();
                if (!readAll(law, in, deep)) {
                    return false;
                }
                law.emit(STEP_OR, 0);
            }
            return true;
        }

        private static boolean readAll(Law law, Text in, int deep) {
            if (!readAtom(law, in, deep)) {
                return false;
            }
            for (int i = 0; i < MOST_BYTES && in.sign == Sign.AND; i++) {
                in.step();
                if (!readAtom(law, in, deep)) {
                    return false;
                }
                law.emit(STEP_AND, 0);
            }
            return true;
        }

        private static boolean readAtom(Law law, Text in, int deep) {
            boolean not = in.sign == Sign.NOT_WORD;
            if (not || in.sign == Sign.LEFT) {
                if (deep >= MOST_DEEP) {
                    return false;
                }
                in.step();
                if (not) {
                    if (!readAtom(law, in, deep + 1)) {
                        return false;
                    }
                    law.emit(STEP_NOT, 0);
                    return true;
                }
                if (!readAny(law, in, deep + 1) || in.sign != Sign.RIGHT) {
                    return false;
                }
                in.step();
                return true;
            }
            if (in.sign.isFlag()) {
                law.emit(STEP_FACT, in.sign.fact);
                in.step();
                return true;
            }
            return readComparison(law, in);
        }

        private static boolean readComparison(Law law, Text in) {
            int comparison = NONE;
            int parts = 0;
            for (int i = 0; i < MOST_BYTES && law.emitPart(in.sign, in.value); i++) {
                in.step();
                if (parts > 0) {
                    law.emit(STEP_ADD, 0);
                }
                parts++;
                if (in.sign != Sign.PLUS) {
                    if (comparison != NONE) {
                        law.emit(comparison, 0);
                        return true;
                    }
                    if (in.sign != Sign.LESS && in.sign != Sign.MORE) {
                        return false;
                    }
                    comparison = in.sign == Sign.LESS ? STEP_LESS : STEP_MORE;
                    parts = 0;
                }
                in.step();
            }
            return false;
        }

        private boolean emitPart(Sign part, int value) {
            boolean isNumber = part == Sign.NUMBER;
            if (!isNumber && (part.fact == NONE || part.isFlag())) {
                return false;
            }
            emit(isNumber ? STEP_NUMBER : STEP_FACT, isNumber ? value : part.fact);
            return true;
        }

        private void emit(int step, int value) {
            if (stepCount >= 0 && stepCount < steps.length) {
                steps[stepCount] = step * STEP + value;
                stepCount++;
            }
        }

        /** What all lines that hold weigh, ease and let be heard, by the facts of a reading. */
        void judge(int[] facts) {
            weighs = 0;
            eases = 0;
            hears = 0;
            int top = 0;
            for (int i = 0; i < stepCount; i++) {
                int step = cell(steps, i) / STEP;
                int value = cell(steps, i) % STEP;
                if (step <= STEP_FACT) {
                    put(stack, top, step == STEP_NUMBER ? value : cell(facts, value));
                    top++;
                } else if (step == STEP_NOT) {
                    put(stack, top - 1, 1 - cell(stack, top - 1));
                } else if (step <= STEP_OR) {
                    top--;
                    put(stack, top - 1, join(step, cell(stack, top - 1), cell(stack, top)));
                } else {
                    top--;
                    addLine(step, cell(stack, top) * value);
                }
            }
        }

        private static int join(int step, int a, int b) {
            if (step == STEP_ADD) {
                return a + b;
            }
            if (step == STEP_LESS) {
                return a < b ? 1 : 0;
            }
            if (step == STEP_MORE) {
                return a > b ? 1 : 0;
            }
            return step == STEP_AND ? a & b : a | b;
        }

        private void addLine(int step, int n) {
            if (step == STEP_WEIGH) {
                weighs += n;
            } else if (step == STEP_EASE) {
                eases += n;
            } else {
                hears += n;
            }
        }
    }

    /** All that acts change, and the texts count: what is remembered of an act and kept as an image. */
    private static final class Hills {
        private final int[] words;
        private final int[] lengths;
        private final int[] breaths;
        private final int[] guards;
        private final int[] states;
        private final int[] counts;
        private final int[] modes;
        private final int[] log;
        private int people;
        private int texts;
        private int noise;
        private int hour;
        private int ears;
        private int seed;
        private int logged;

        Hills() {
            words = new int[MOST_PEOPLE * MOST_WORDS];
            lengths = new int[MOST_PEOPLE];
            breaths = new int[MOST_PEOPLE];
            guards = new int[MOST_PEOPLE];
            states = new int[MOST_PEOPLE];
            counts = new int[MOST_PEOPLE];
            modes = new int[MODES];
            log = new int[LOG_ROWS * LOG_FIELDS];
            people = 0;
            texts = 0;
            noise = 20;
            hour = 0;
            ears = 0;
            seed = 1;
            logged = 0;
        }

        void copy(Hills other) {
            System.arraycopy(other.words, 0, words, 0, words.length);
            System.arraycopy(other.lengths, 0, lengths, 0, lengths.length);
            System.arraycopy(other.breaths, 0, breaths, 0, breaths.length);
            System.arraycopy(other.guards, 0, guards, 0, guards.length);
            System.arraycopy(other.states, 0, states, 0, states.length);
            System.arraycopy(other.counts, 0, counts, 0, counts.length);
            System.arraycopy(other.modes, 0, modes, 0, modes.length);
            System.arraycopy(other.log, 0, log, 0, log.length);
            people = other.people;
            texts = other.texts;
            noise = other.noise;
            hour = other.hour;
            ears = other.ears;
            seed = other.seed;
            logged = other.logged;
        }

        boolean has(int person) {
            return person >= 0 && person < people;
        }

        int wordAt(int person, int place) {
            return cell(words, person * MOST_WORDS + place);
        }

        int kindAt(int person, int place) {
            return place < cell(lengths, person) ? wordAt(person, place) / 10 : NO_WORD;
        }

        /** How many first words of both oaths are alike. */
        int alikeFirst(int person, int other) {
            int most = Math.min(cell(lengths, person), cell(lengths, other));
            int alike = 0;
            while (alike < most && wordAt(person, alike) == wordAt(other, alike)) {
                alike++;
            }
            return alike;
        }

        /** How many words are alike at like places of both oaths. */
        int alikeInAll(int person, int other) {
            int most = Math.min(cell(lengths, person), cell(lengths, other));
            int alike = 0;
            for (int place = 0; place < most; place++) {
                if (wordAt(person, place) == wordAt(other, place)) {
                    alike++;
                }
            }
            return alike;
        }

        void copyOath(int person, int other) {
            for (int place = 0; place < MOST_WORDS; place++) {
                put(words, person * MOST_WORDS + place, wordAt(other, place));
            }
            put(lengths, person, cell(lengths, other));
        }

        int hoursNeed(int person) {
            int breath = Math.max(1, cell(breaths, person));
            return (cell(lengths, person) + breath - 1) / breath;
        }

        int heldCount(int person) {
            return cell(states, person) == HELD ? cell(counts, person) : 0;
        }

        int bitsOf(int state) {
            int bits = 0;
            for (int person = 0; person < people; person++) {
                if (cell(states, person) == state) {
                    bits |= 1 << person;
                }
            }
            return bits;
        }

        int oddsBehind(int odds, int guarding) {
            return odds * (100 - Math.max(0, noise - 10 * guarding)) / 100;
        }

        void settle(int person, int state, int count) {
            put(states, person, state);
            put(counts, person, count);
        }

        void note(int person, int kind, int count, int weight) {
            if (logged == LOG_ROWS) {
                System.arraycopy(log, LOG_FIELDS, log, 0, log.length - LOG_FIELDS);
                logged--;
            }
            int row = logged * LOG_FIELDS;
            put(log, row, hour);
            put(log, row + 1, person);
            put(log, row + 2, kind);
            put(log, row + 3, count);
            put(log, row + 4, weight);
            logged++;
        }

        int draw() {
            seed = 1103515245 * seed + 12345;
            return seed >>> 16 & 32767;
        }
    }

    /** What one clause has gathered, in a chain from the oath itself to the innermost clause. */
    private static final class Clause {
        private Clause around;
        private Clause inner;
        private int verb;
        private int sum;
        private int ifs;
        private int by;
        private int tos;
        private int turned;

        void clear() {
            verb = 0;
            sum = 0;
            ifs = 0;
            by = NO_BY;
            tos = 0;
            turned = 0;
        }

        void take(int kind, int n) {
            if (kind <= WED && verb == 0) {
                verb = kind + 1;
            } else if (kind == SUM) {
                sum = Math.min(MOST_SUM, sum + n);
            } else if (kind == IF) {
                ifs |= 1 << n;
            } else if (kind == NOT) {
                turned = 1 - turned;
            } else if (kind == BY) {
                by = Math.min(by, n);
            } else if (kind == TO) {
                tos |= 1 << n;
            }
        }

        void lay(Clause done) {
            if (verb == 0) {
                verb = done.verb;
            }
            sum = Math.min(MOST_SUM, sum + done.sum);
            ifs |= done.ifs;
            by = Math.min(by, done.by);
            tos |= done.tos;
            turned ^= done.turned;
        }

        int base() {
            int whole = 0;
            if (verb == 1) {
                whole = sum + 2 * Integer.bitCount(tos);
            } else if (verb == 2) {
                whole = 12 - by;
            } else if (verb == 3) {
                whole = Math.max(0, 9 - 2 * Integer.bitCount(ifs));
            }
            return turned == 1 ? whole / 2 : whole;
        }
    }

    /** Reads words that count and weighs them by the law. */
    private static final class Scales {
        private final Law law;
        private final Clause oath;
        private final int[] facts;
        private final int[] told;

        Scales(Law law) {
            this.law = law;
            oath = new Clause();
            facts = new int[FACTS];
            told = new int[TOLD_FIELDS];
            Clause around = oath;
            for (int i = 0; i < MOST_WITHIN; i++) {
                Clause inner = new Clause();
                around.inner = inner;
                inner.around = around;
                around = inner;
            }
        }

        /** The weight of a person's first words; told holds all of that reading. */
        int weight(Hills hills, int person, int count) {
            readWords(hills.words, person * MOST_WORDS, count, hills.modes);
            return judge(person, count, count == cell(hills.lengths, person));
        }

        void readWords(int[] words, int from, int count, int[] modes) {
            Clause clause = oath;
            clause.clear();
            for (int k = 0; k < count; k++) {
                int code = cell(words, from + k);
                int kind = code / 10;
                if (kind == OPEN && clause.inner != null) {
                    clause = clause.inner;
                    clause.clear();
                } else if (kind == SHUT && clause.around != null) {
                    clause.around.lay(clause);
                    clause = clause.around;
                } else {
                    clause.take(kind, code % 10);
                }
            }
            for (int distance = 0; distance < MODES && clause.around != null; distance++) {
                int mode = cell(modes, distance);
                if (mode == TURNED) {
                    clause.turned = 1 - clause.turned;
                }
                if (mode != DROPPED) {
                    clause.around.lay(clause);
                }
                clause = clause.around;
            }
        }

        /** Tells all of the reading that stands in the oath, and answers its weight. */
        int judge(int person, int count, boolean whole) {
            put(facts, FACT_PERSON, person);
            put(facts, FACT_VERB, oath.verb);
            put(facts, FACT_SUM, oath.sum);
            put(facts, FACT_IFS, Integer.bitCount(oath.ifs));
            put(facts, FACT_BY, oath.by);
            put(facts, FACT_TOS, Integer.bitCount(oath.tos));
            put(facts, FACT_COUNT, count);
            put(facts, FACT_WHOLE, whole ? 1 : 0);
            put(facts, FACT_TURNED, oath.turned);
            put(facts, FACT_EMPTY, oath.verb == 0 ? 1 : 0);
            law.judge(facts);
            int weight = oath.verb == 0 ? 0 : Math.max(0, oath.base() + law.weighs - law.eases);
            put(told, TOLD_VERB, oath.verb);
            put(told, TOLD_SUM, oath.sum);
            put(told, TOLD_IFS, oath.ifs);
            put(told, TOLD_BY, oath.by);
            put(told, TOLD_TOS, oath.tos);
            put(told, TOLD_TURNED, oath.turned);
            put(told, TOLD_WEIGHT, weight);
            put(told, TOLD_HEARD, 1 + law.hears);
            return weight;
        }
    }

    /** How hours go by, and how those that speak are broken in on or come to their end. */
    private static final class Course {
        private final Scales scales;

        Course(Scales scales) {
            this.scales = scales;
        }

        /** How many were held in so many hours. */
        int passHours(Hills hills, int n) {
            int held = 0;
            for (int i = 0; i < n; i++) {
                for (int person = 0; person < hills.people; person++) {
                    if (cell(hills.states, person) == SPEAKING) {
                        speakOn(hills, person);
                        held += cell(hills.states, person) == HELD ? 1 : 0;
                    }
                }
                hills.hour = Math.min(MOST_TOLD, hills.hour + 1);
            }
            return held;
        }

        private void speakOn(Hills hills, int person) {
            if (hills.draw() % 100 < hills.noise - 10 * cell(hills.guards, person)) {
                breakIn(hills, person, hills.draw() % 5);
            }
            if (cell(hills.states, person) == SPEAKING) {
                int said = cell(hills.counts, person) + cell(hills.breaths, person);
                if (said >= cell(hills.lengths, person)) {
                    letFinish(hills, person);
                } else {
                    put(hills.counts, person, said);
                }
            }
            if (cell(hills.states, person) == HELD) {
                // the scales still hold the reading that was noted as it was held
                hills.ears = Math.min(MOST_TOLD, hills.ears + cell(scales.told, TOLD_HEARD));
            }
        }

        /** How many words count; NONE of a dog, of which nothing comes but a row of the log. */
        int breakIn(Hills hills, int person, int kind) {
            int said = cell(hills.counts, person);
            if (kind == DOG) {
                hills.note(person, DOG, said, scales.weight(hills, person, said));
                return NONE;
            }
            int counted = countBehind(hills, person, kind, said);
            hills.settle(person, HELD, counted);
            hills.note(person, kind, counted, scales.weight(hills, person, counted));
            return counted;
        }

        private static int countBehind(Hills hills, int person, int kind, int said) {
            if (kind == BELL) {
                return Math.max(0, said - 1);
            }
            if (kind == KISS) {
                return Math.max(0, said - 2);
            }
            boolean spokenOver = (hills.bitsOf(SPEAKING) & ~(1 << person)) != 0;
            return kind == ANOTHER && spokenOver ? 0 : said;
        }

        /** The weight of all words, which count then. */
        int letFinish(Hills hills, int person) {
            int all = cell(hills.lengths, person);
            hills.settle(person, HELD, all);
            int weight = scales.weight(hills, person, all);
            hills.note(person, FINISHED, all, weight);
            return weight;
        }
    }

    /** The search for the order of units by which the least that can hold is the most. */
    private static final class Orders {
        private final Scales scales;
        private final int[] unitStarts;
        private final int[] unitLengths;
        private final int[] words;
        private final int[] places;
        private final int[] bestPlaces;
        private int person;
        private int units;
        private int best;

        Orders(Scales scales) {
            this.scales = scales;
            unitStarts = new int[MOST_UNITS];
            unitLengths = new int[MOST_UNITS];
            words = new int[MOST_WORDS];
            places = new int[MOST_UNITS];
            bestPlaces = new int[MOST_UNITS];
            person = NONE;
            units = 0;
            best = NONE;
        }

        /** False if there are too many units. */
        boolean find(Hills hills, int who) {
            person = who;
            best = NONE;
            partUnits(hills);
            if (units > MOST_UNITS) {
                return false;
            }
            placeFrom(this, hills, 0, 0, 0, MOST_TOLD);
            return true;
        }

        private void partUnits(Hills hills) {
            units = 0;
            int within = 0;
            for (int place = 0; place < cell(hills.lengths, person); place++) {
                if (within == 0) {
                    put(unitStarts, units, place);
                    put(unitLengths, units, 0);
                    units++;
                }
                int kind = hills.kindAt(person, place);
                within += kind == OPEN ? 1 : kind == SHUT ? -1 : 0;
                put(unitLengths, units - 1, cell(unitLengths, units - 1) + 1);
            }
        }

        /** Orders are tried unit by unit, by numbers: of several best ones the first one stays. */
        private static void placeFrom(Orders o, Hills hills, int placed, int used, int filled, int least) {
            if (placed >= o.units) {
                o.best = least;
                System.arraycopy(o.places, 0, o.bestPlaces, 0, o.places.length);
                return;
            }
            for (int unit = 0; unit < o.units; unit++) {
                if ((used >> unit & 1) == 0) {
                    int length = cell(o.unitLengths, unit);
                    int leastSo = Math.min(least, o.leastOfUnit(hills, unit, filled));
                    // an order that holds no more already cannot become the most
                    if (leastSo > o.best) {
                        put(o.places, placed, unit);
                        placeFrom(o, hills, placed + 1, used | 1 << unit, filled + length, leastSo);
                    }
                }
            }
        }

        /** The least weight behind any word of a unit that is put behind those words that stand already. */
        private int leastOfUnit(Hills hills, int unit, int filled) {
            int least = MOST_TOLD;
            for (int i = 0; i < cell(unitLengths, unit); i++) {
                int count = filled + i + 1;
                put(words, count - 1, hills.wordAt(person, cell(unitStarts, unit) + i));
                scales.readWords(words, 0, count, hills.modes);
                least = Math.min(least, scales.judge(person, count, count == cell(hills.lengths, person)));
            }
            return least;
        }
    }

    /** The search for the pairs of people with the most words alike. */
    private static final class Pairs {
        private final int[] partners;
        private final int[] best;
        private int most;

        Pairs() {
            partners = new int[MOST_PEOPLE];
            best = new int[MOST_PEOPLE];
            most = NONE;
        }

        void find(Hills hills) {
            for (int person = 0; person < MOST_PEOPLE; person++) {
                put(partners, person, NONE);
            }
            most = NONE;
            pairFrom(this, hills, 0, 0);
        }

        /** Ways are tried person by person, none first: of several the first one stays. */
        private static void pairFrom(Pairs way, Hills hills, int person, int alike) {
            if (person >= hills.people) {
                way.keepIfMore(alike);
                return;
            }
            pairFrom(way, hills, person + 1, alike);
            if (cell(way.partners, person) != NONE) {
                return;
            }
            for (int other = person + 1; other < hills.people; other++) {
                if (cell(way.partners, other) == NONE) {
                    put(way.partners, person, other);
                    put(way.partners, other, person);
                    pairFrom(way, hills, person + 1, alike + hills.alikeInAll(person, other));
                    put(way.partners, person, NONE);
                    put(way.partners, other, NONE);
                }
            }
        }

        private void keepIfMore(int alike) {
            if (alike > most) {
                most = alike;
                for (int person = 0; person < MOST_PEOPLE; person++) {
                    put(best, person, cell(partners, person));
                }
            }
        }
    }
}
