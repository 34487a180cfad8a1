import java.util.Arrays;
import java.util.NoSuchElementException;

/** A school in which nothing may be told twice by anybody; ../shared/DOC.md says what each call promises. */
public final class SaidOnce {
    public static final int NONE = -1;

    private static final int MAX_THINGS = 10;
    private static final int MAX_WORDINGS = 6;
    private static final int MAX_PEOPLE = 10;
    private static final int MAX_RULES = 12;
    private static final int MAX_SEAT = 9;
    private static final int MAX_EAR = 9;
    private static final int MAX_STAMMER = 100;
    private static final int MAX_LOUD = 9;
    private static final int FIRST_LOUD = 2;
    private static final int MAX_TEXTS = 12;
    private static final int MAX_SCHOOL_LINES = 14;
    private static final int MAX_LAW_LINES = 12;
    private static final int MAX_AMOUNT = 99;
    private static final int MAX_NUMBER = 999;
    private static final int MAX_DEPTH = 6;
    private static final int MAX_TAPE = 400;
    private static final int FED_AT_ONCE = 20;
    private static final int MAX_TERM = 40;
    private static final int MAX_SAYINGS = 60;
    private static final int MAX_REMEMBERED = 12;
    private static final int SPAN_SEEDS = 6;
    private static final int HEARD_NOTHING = 255;
    private static final int KNOWN_ALREADY = -2;

    private final Tape tape = new Tape();
    private final School now = new School();
    private final School pictured = new School();
    private final Planner planner = new Planner(now);
    private final Search search = new Search(now);
    private final SchoolReader schoolReader = new SchoolReader(tape);
    private final LawReader lawReader = new LawReader(tape);
    private final State[] past = new State[MAX_REMEMBERED];
    private int remembered;
    private boolean imaged;

    public SaidOnce() {
        for (int k = 0; k < MAX_REMEMBERED; k++) {
            past[k] = new State();
        }
    }

    public int feed(int a, int b, int c, int d, int e) {
        if (tape.length > MAX_TAPE - FED_AT_ONCE) {
            return NONE;
        }
        tape.put(a);
        tape.put(b);
        tape.put(c);
        tape.put(d);
        tape.put(e);
        return tape.length;
    }

    public boolean end(int n) {
        if (n < 0 || n > tape.length) {
            return false;
        }
        tape.length = n;
        return true;
    }

    public int school() throws IllegalArgumentException, UnsupportedOperationException {
        schoolReader.begin(now);
        int lines = schoolReader.readLines(MAX_SCHOOL_LINES);
        tape.useUp();
        if (lines == NONE) {
            throw new IllegalArgumentException("the text of the school is wrong");
        }
        if (now.setup.texts >= MAX_TEXTS) {
            throw new UnsupportedOperationException("the school has all its texts");
        }
        schoolReader.deliver(now);
        now.setup.texts++;
        remembered = 0;
        return now.setup.texts;
    }

    public int law() throws IllegalArgumentException {
        lawReader.begin();
        int lines = lawReader.readLines(MAX_LAW_LINES);
        tape.useUp();
        if (lines == NONE) {
            throw new IllegalArgumentException("the text of the law is wrong");
        }
        now.law.copyFrom(lawReader.law);
        remembered = 0;
        return lines;
    }

    public int fault() {
        return tape.fault;
    }

    public int thing(int thing, int what) throws IndexOutOfBoundsException, NoSuchElementException {
        needThing(thing);
        switch (what) {
            case 0:
                return now.setup.wordings[thing];
            case 1:
                return now.countLeft(thing);
            case 2:
                return now.knowers(thing);
            case 3:
                return search.sources(thing);
            default:
                throw new NoSuchElementException("of a thing there is no such number");
        }
    }

    public int person(int person, int what) throws IndexOutOfBoundsException, NoSuchElementException {
        needPerson(person);
        switch (what) {
            case 0:
                return now.state.xs[person];
            case 1:
                return now.state.ys[person];
            case 2:
                return now.setup.ears[person];
            case 3:
                return now.setup.stammers[person];
            case 4:
                return now.state.knows[person];
            case 5:
                return now.state.isAbsent(person) ? 1 : 0;
            case 6:
                return now.setup.following(now.state.knows[person]);
            case 7:
                return now.state.knows[person] & ~now.knownBy(now.present() & ~(1 << person));
            default:
                throw new NoSuchElementException("of a person there is no such number");
        }
    }

    public int rule(int k, int what) throws NoSuchElementException {
        if (what < 0 || what > 2) {
            throw new NoSuchElementException("of a rule there is no such number");
        }
        if (k < 0 || k >= now.setup.rules) {
            return NONE;
        }
        return what == 0 ? now.setup.firsts[k] : what == 1 ? now.setup.seconds[k] : now.setup.thirds[k];
    }

    public long store() {
        return now.state.store;
    }

    public int apart(int person, int other) throws IndexOutOfBoundsException, IllegalArgumentException {
        needTwo(person, other);
        return now.state.distance(person, other);
    }

    public int hears(int who, int thing, int wording, int whom)
            throws IndexOutOfBoundsException, IllegalArgumentException {
        needSaying(thing, wording);
        needTwo(who, whom);
        return now.takenNow(who, thing, wording, whom);
    }

    public int audience(int who, int thing, int wording, boolean right) throws IndexOutOfBoundsException {
        needPerson(who);
        needSaying(thing, wording);
        return right ? now.takers(who, thing, wording, thing) : now.hearers(who, thing, wording);
    }

    public int say(int who, int thing, int wording) throws IndexOutOfBoundsException, IllegalStateException {
        needPerson(who);
        needSaying(thing, wording);
        if (!now.canTell(who, thing) || !now.isLeft(thing, wording)) {
            throw new IllegalStateException("this cannot be said");
        }
        remember();
        return now.speak(who, thing, wording);
    }

    public int think(int person) throws IndexOutOfBoundsException {
        needPerson(person);
        remember();
        int before = now.state.knows[person];
        now.state.knows[person] = now.setup.following(before);
        return now.state.knows[person] & ~before;
    }

    public boolean away(int person, boolean absent) throws IndexOutOfBoundsException {
        needPerson(person);
        remember();
        boolean before = now.state.isAbsent(person);
        if (absent) {
            now.state.absent |= 1 << person;
        } else {
            now.state.absent &= ~(1 << person);
        }
        return before != absent;
    }

    public int change(int person, int other) throws IndexOutOfBoundsException, IllegalArgumentException {
        needTwo(person, other);
        remember();
        now.state.swapSeats(person, other);
        return now.state.distance(person, other);
    }

    public int day() {
        remember();
        int back = Integer.bitCount(now.state.absent);
        now.state.absent = 0;
        now.state.day++;
        return back;
    }

    public int term(int n) throws IllegalArgumentException {
        needTerm(n);
        remember();
        return now.runTerm(n);
    }

    public int sayable() {
        return now.knownBy(now.present()) & now.leftThings();
    }

    public int dumb() {
        int dumb = 0;
        for (int p = 0; p < now.setup.people; p++) {
            if (now.state.isAbsent(p) || (now.state.knows[p] & now.leftThings()) == 0) {
                dumb |= 1 << p;
            }
        }
        return dumb;
    }

    public int silent() {
        return now.allThings() & ~now.leftThings();
    }

    public int plan(int thing, boolean first) throws IndexOutOfBoundsException {
        needThing(thing);
        return first ? planner.firstSaying(thing) : planner.fewestSayings(thing);
    }

    public int kept(int person, int thing) throws IndexOutOfBoundsException {
        needPerson(person);
        needThing(thing);
        return search.keptFrom(person, thing);
    }

    public int seats(int who, int thing, int wording, boolean many) throws IndexOutOfBoundsException {
        needPerson(who);
        needSaying(thing, wording);
        int swap = search.bestSwap(who, thing, wording);
        if (!many) {
            return swap;
        }
        return swap == NONE ? Integer.bitCount(now.hearers(who, thing, wording))
                : search.hearersIfSwapped(swap / 10, swap % 10, who, thing, wording);
    }

    public long what(int who) throws IndexOutOfBoundsException, IllegalArgumentException {
        int told = tape.useUp();
        needPerson(who);
        if (told != now.setup.people) {
            throw new IllegalArgumentException("the tape has not a byte for each person");
        }
        for (int p = 0; p < told; p++) {
            int taken = tape.byteAt(p);
            if (taken >= now.setup.things && taken != HEARD_NOTHING) {
                throw new IllegalArgumentException("a byte of the tape is no thing");
            }
        }
        long found = 0;
        for (int thing = 0; thing < now.setup.things; thing++) {
            for (int wording = 0; wording < now.setup.wordings[thing]; wording++) {
                if (comesAsTold(who, thing, wording)) {
                    found |= 1L << numberOf(thing, wording);
                }
            }
        }
        return found;
    }

    public int exam() {
        int follows = 0;
        for (int p = 0; p < now.setup.people; p++) {
            if (!now.state.isAbsent(p)) {
                follows |= now.setup.following(now.state.knows[p]) & ~now.state.knows[p];
            }
        }
        return follows & ~now.saidThings();
    }

    public int last() {
        return now.countLast();
    }

    public int alike(int person, int other) throws IndexOutOfBoundsException, IllegalArgumentException {
        needTwo(person, other);
        return now.allThings() & ~(now.state.knows[person] ^ now.state.knows[other]);
    }

    public int ask(int person, int other) throws IndexOutOfBoundsException, IllegalArgumentException {
        needTwo(person, other);
        int unlike = now.state.knows[person] ^ now.state.knows[other];
        return unlike == 0 ? NONE : Integer.numberOfTrailingZeros(unlike);
    }

    public int groups(boolean most) {
        int groups = 0;
        int largest = 0;
        for (int p = 0; p < now.setup.people; p++) {
            int size = 0;
            boolean isFirst = true;
            for (int q = 0; q < now.setup.people; q++) {
                if (now.state.knows[p] == now.state.knows[q]) {
                    size++;
                    isFirst = isFirst && q >= p;
                }
            }
            groups += isFirst ? 1 : 0;
            largest = Math.max(largest, size);
        }
        return most ? largest : groups;
    }

    public boolean keeps(int person, int other) throws IndexOutOfBoundsException, IllegalArgumentException {
        needTwo(person, other);
        return lead(person, other) > 0;
    }

    public int margin(int person, int other) throws IndexOutOfBoundsException, IllegalArgumentException {
        needTwo(person, other);
        return lead(person, other);
    }

    public int call(int thing, boolean much) throws IndexOutOfBoundsException {
        needThing(thing);
        int best = search.bestCaller(thing);
        if (!much) {
            return best;
        }
        return best == NONE ? 0 : search.worthOfCalling(best, thing);
    }

    public int trial(int n, int thing) throws IndexOutOfBoundsException, IllegalArgumentException {
        if (thing != NONE) {
            needThing(thing);
        }
        needTerm(n);
        return now.tryTerm(n, now.state.seed, thing);
    }

    public int span(int n, boolean most) throws IllegalArgumentException {
        needTerm(n);
        int best = now.tryTerm(n, 1, NONE);
        for (int seed = 2; seed <= SPAN_SEEDS; seed++) {
            int said = now.tryTerm(n, seed, NONE);
            best = most ? Math.max(best, said) : Math.min(best, said);
        }
        return best;
    }

    public int how(int person, int thing) throws IndexOutOfBoundsException {
        needPerson(person);
        needThing(thing);
        int row = now.log.rowBefore(now.state.rows, person, thing);
        return row == NONE ? NONE : now.state.rows - 1 - row;
    }

    public int teacher() {
        int best = NONE;
        int most = 0;
        for (int p = 0; p < now.setup.people; p++) {
            int taught = now.log.taughtBy(p, now.state.rows);
            if (taught > most) {
                most = taught;
                best = p;
            }
        }
        return best;
    }

    public int chain(int person, int thing, boolean begin) throws IndexOutOfBoundsException {
        needPerson(person);
        needThing(thing);
        if (!now.state.isKnown(person, thing)) {
            return begin ? NONE : 0;
        }
        return begin ? now.log.chainBegin(now.state.rows, person, thing)
                : now.log.chainLength(now.state.rows, person, thing);
    }

    public int spot(int person, int who, int thing, int wording)
            throws IndexOutOfBoundsException, IllegalArgumentException {
        needSaying(thing, wording);
        needTwo(person, who);
        return search.spotFor(person, who, thing, wording);
    }

    public int speakers(int thing) throws IndexOutOfBoundsException {
        needThing(thing);
        return search.fewestSpeakers(thing);
    }

    public int between(int person, int other) throws IndexOutOfBoundsException, IllegalArgumentException {
        needTwo(person, other);
        int taken = 0;
        for (int thing = 0; thing < now.setup.things; thing++) {
            for (int wording = 0; wording < now.setup.wordings[thing]; wording++) {
                if (now.canTell(person, thing) && now.isLeft(thing, wording)) {
                    int as = now.takenNow(person, thing, wording, other);
                    taken |= as == NONE ? 0 : 1 << as;
                }
            }
        }
        return taken;
    }

    public int echo(int who, int thing, int wording, boolean most) throws IndexOutOfBoundsException {
        needPerson(who);
        needSaying(thing, wording);
        int unlike = 0;
        int best = NONE;
        int bestCount = 0;
        for (int as = 0; as < now.setup.things; as++) {
            int takers = Integer.bitCount(now.takers(who, thing, wording, as));
            unlike += takers > 0 ? 1 : 0;
            if (takers > bestCount) {
                bestCount = takers;
                best = as;
            }
        }
        return most ? best : unlike;
    }

    public int learnt(int ago, int person) throws IndexOutOfBoundsException {
        needPerson(person);
        int row = rowAgo(ago);
        return row == NONE ? NONE : now.log.learntBy(row, person);
    }

    public int log(int ago, int what) throws NoSuchElementException {
        if (what < 0 || what > 4) {
            throw new NoSuchElementException("of a row of the log there is no such number");
        }
        int row = rowAgo(ago);
        if (row == NONE) {
            return NONE;
        }
        switch (what) {
            case 0:
                return now.log.days[row];
            case 1:
                return now.log.speakers[row];
            case 2:
                return now.log.sayings[row];
            case 3:
                return now.log.learners[row];
            default:
                return now.log.stammered[row] ? 1 : 0;
        }
    }

    public int seed(int n) {
        int before = now.state.seed;
        now.state.seed = n;
        return before;
    }

    public boolean undo() {
        if (remembered == 0) {
            return false;
        }
        remembered--;
        now.state.copyFrom(past[remembered]);
        return true;
    }

    public void image() {
        pictured.copyFrom(now);
        imaged = true;
    }

    public boolean back() {
        if (!imaged) {
            return false;
        }
        now.copyFrom(pictured);
        remembered = 0;
        return true;
    }

    public int count(int what) {
        switch (what) {
            case 0:
                return now.setup.things;
            case 1:
                return now.setup.people;
            case 2:
                return now.setup.rules;
            case 3:
                return now.setup.texts;
            case 4:
                return now.law.lines;
            case 5:
                return now.state.day;
            case 6:
                return now.setup.loud;
            case 7:
                return Long.bitCount(now.state.store);
            case 8:
                return now.countLeftOf(now.allThings());
            case 9:
                return now.state.absent;
            case 10:
                return now.state.rows;
            case 11:
                return remembered;
            default:
                return NONE;
        }
    }

    private void needThing(int thing) {
        if (thing < 0 || thing >= now.setup.things) {
            throw new IndexOutOfBoundsException("there is no such thing");
        }
    }

    private void needSaying(int thing, int wording) {
        needThing(thing);
        if (wording < 0 || wording >= now.setup.wordings[thing]) {
            throw new IndexOutOfBoundsException("there is no such wording");
        }
    }

    private void needPerson(int person) {
        if (person < 0 || person >= now.setup.people) {
            throw new IndexOutOfBoundsException("there is no such person");
        }
    }

    private void needTwo(int person, int other) {
        needPerson(person);
        needPerson(other);
        if (person == other) {
            throw new IllegalArgumentException("both are one");
        }
    }

    private static void needTerm(int n) {
        if (n < 0 || n > MAX_TERM) {
            throw new IllegalArgumentException("a term has not so many sayings");
        }
    }

    /** The states wander down by reference when the row is full, so that no act makes a new one. */
    private void remember() {
        if (remembered == MAX_REMEMBERED) {
            State oldest = past[0];
            for (int k = 1; k < MAX_REMEMBERED; k++) {
                past[k - 1] = past[k];
            }
            past[MAX_REMEMBERED - 1] = oldest;
            remembered--;
        }
        past[remembered].copyFrom(now.state);
        remembered++;
    }

    private int rowAgo(int ago) {
        return ago < 0 || ago >= now.state.rows ? NONE : now.state.rows - 1 - ago;
    }

    private boolean comesAsTold(int who, int thing, int wording) {
        for (int p = 0; p < now.setup.people; p++) {
            int told = tape.byteAt(p) == HEARD_NOTHING ? NONE : tape.byteAt(p);
            if (p != who && now.takenNow(who, thing, wording, p) != told) {
                return false;
            }
        }
        return true;
    }

    /** What both know is best said first, for the other one could say it too; so the lead also tells who wins. */
    private int lead(int person, int other) {
        int first = now.state.knows[person];
        int second = now.state.knows[other];
        int shared = now.countLeftOf(first & second);
        return now.countLeftOf(first & ~second) - now.countLeftOf(second & ~first) + shared % 2;
    }

    private static int numberOf(int thing, int wording) {
        return MAX_WORDINGS * thing + wording;
    }

    /** The bytes that were fed, and the one that is looked at when they are read as a text. */
    private static final class Tape {
        static final int END = 0;
        static final int WORD = 1;
        static final int NUMBER = 2;
        static final int SIGN = 3;
        static final int MAX_DIGITS = 3;

        private final byte[] bytes = new byte[MAX_TAPE];
        private int length;
        private int fault = NONE;
        private int kind;
        private int start;
        private int stop;
        private int number;

        void put(int four) {
            for (int shift = 24; shift >= 0; shift -= 8) {
                if (length < MAX_TAPE) {
                    bytes[length] = (byte) (four >> shift);
                    length++;
                }
            }
        }

        /** The bytes stay readable till the next ones come. */
        int useUp() {
            int had = length;
            length = 0;
            return had;
        }

        int byteAt(int k) {
            return k >= 0 && k < MAX_TAPE ? bytes[k] & 255 : HEARD_NOTHING;
        }

        void open() {
            fault = NONE;
            stop = 0;
            next();
        }

        /** Where nothing more comes, the end stands at the text's length: a fault there needs no case of its own. */
        void next() {
            int at = stop;
            while (at < length && bytes[at] == ' ') {
                at++;
            }
            start = at;
            number = 0;
            if (at >= length) {
                kind = END;
            } else if (isWithin(at, 'a', 'z')) {
                kind = WORD;
                while (at < length && isWithin(at, 'a', 'z')) {
                    at++;
                }
            } else if (isWithin(at, '0', '9')) {
                kind = NUMBER;
                while (at < length && isWithin(at, '0', '9')) {
                    // A number of too many digits is made one that is out of all bounds.
                    number = at - start < MAX_DIGITS ? 10 * number + bytes[at] - '0' : MAX_NUMBER + 1;
                    at++;
                }
            } else {
                kind = SIGN;
                at++;
            }
            stop = at;
        }

        private boolean isWithin(int at, char low, char high) {
            return bytes[at] >= low && bytes[at] <= high;
        }

        boolean atEnd() {
            return kind == END;
        }

        boolean atNumber(int low, int high) {
            return kind == NUMBER && number >= low && number <= high;
        }

        boolean atSign(char sign) {
            return kind == SIGN && bytes[start] == sign;
        }

        boolean atWord(String word) {
            if (kind != WORD || stop - start != word.length()) {
                return false;
            }
            for (int k = 0; k < word.length(); k++) {
                if (bytes[start + k] != word.charAt(k)) {
                    return false;
                }
            }
            return true;
        }

        int takeNumber(int low, int high) {
            if (!atNumber(low, high)) {
                return NONE;
            }
            int taken = number;
            next();
            return taken;
        }

        boolean takeSign(char sign) {
            if (!atSign(sign)) {
                return false;
            }
            next();
            return true;
        }

        boolean takeWord(String word) {
            if (!atWord(word)) {
                return false;
            }
            next();
            return true;
        }
    }

    /** A reader of a text never goes beyond what cannot stand there, so that the tape always knows the fault. */
    private abstract static class LineReader {
        final Tape tape;

        LineReader(Tape tape) {
            this.tape = tape;
        }

        abstract boolean readLine();

        /** How many lines the text has; NONE if it is wrong. */
        int readLines(int most) {
            tape.open();
            if (tape.atEnd()) {
                return 0;
            }
            for (int lines = 1; lines <= most; lines++) {
                if (!readLine()) {
                    break;
                }
                if (tape.atEnd()) {
                    return lines;
                }
                if (!tape.takeSign(';')) {
                    break;
                }
            }
            tape.fault = tape.start;
            return NONE;
        }
    }

    /** Reads into a draft, for of a wrong text nothing stays. */
    private static final class SchoolReader extends LineReader {
        private final Setup setup = new Setup();
        private final State state = new State();

        SchoolReader(Tape tape) {
            super(tape);
        }

        void begin(School school) {
            setup.copyFrom(school.setup);
            state.copyFrom(school.state);
        }

        void deliver(School school) {
            school.setup.copyFrom(setup);
            school.state.copyFrom(state);
        }

        boolean readLine() {
            if (tape.atWord("thing")) {
                return setup.things < MAX_THINGS && readThing();
            }
            if (tape.atWord("person")) {
                return setup.people < MAX_PEOPLE && readPerson();
            }
            if (tape.atWord("follow")) {
                return setup.rules < MAX_RULES && readRule();
            }
            if (tape.takeWord("said")) {
                return readSaid();
            }
            if (tape.takeWord("absent")) {
                return readAbsent();
            }
            return tape.takeWord("loud") && readLoud();
        }

        private boolean readThing() {
            tape.next();
            int wordings = tape.takeNumber(1, MAX_WORDINGS);
            if (wordings == NONE) {
                return false;
            }
            setup.wordings[setup.things] = wordings;
            setup.things++;
            return true;
        }

        private boolean readPerson() {
            tape.next();
            int x = tape.takeNumber(0, MAX_SEAT);
            if (x == NONE || !tape.atNumber(0, MAX_SEAT) || state.seatedAt(x, tape.number, setup.people) != NONE) {
                return false;
            }
            int y = tape.takeNumber(0, MAX_SEAT);
            int ear = tape.takeWord("ear") ? tape.takeNumber(0, MAX_EAR) : NONE;
            if (ear == NONE) {
                return false;
            }
            int stammer = tape.takeWord("stammer") ? tape.takeNumber(0, MAX_STAMMER) : NONE;
            if (stammer == NONE) {
                return false;
            }
            int knows = tape.takeWord("knows") ? readThings() : 0;
            if (knows == NONE) {
                return false;
            }
            int person = setup.people;
            state.seat(person, x, y);
            state.knows[person] = knows;
            setup.ears[person] = ear;
            setup.stammers[person] = stammer;
            setup.people++;
            return true;
        }

        private int readThings() {
            int things = 0;
            for (int k = 0; k < MAX_TAPE; k++) {
                int thing = tape.takeNumber(0, setup.things - 1);
                if (thing == NONE) {
                    return NONE;
                }
                things |= 1 << thing;
                if (tape.kind != Tape.NUMBER) {
                    break;
                }
            }
            return things;
        }

        private boolean readRule() {
            tape.next();
            int first = tape.takeNumber(0, setup.things - 1);
            int second = first == NONE ? NONE : tape.takeNumber(0, setup.things - 1);
            int third = second == NONE ? NONE : tape.takeNumber(0, setup.things - 1);
            if (third == NONE) {
                return false;
            }
            setup.firsts[setup.rules] = first;
            setup.seconds[setup.rules] = second;
            setup.thirds[setup.rules] = third;
            setup.rules++;
            return true;
        }

        private boolean readSaid() {
            int thing = tape.takeNumber(0, setup.things - 1);
            int wording = thing == NONE ? NONE : tape.takeNumber(0, setup.wordings[thing] - 1);
            if (wording == NONE) {
                return false;
            }
            state.store |= 1L << numberOf(thing, wording);
            return true;
        }

        private boolean readAbsent() {
            int person = tape.takeNumber(0, setup.people - 1);
            if (person == NONE) {
                return false;
            }
            state.absent |= 1 << person;
            return true;
        }

        private boolean readLoud() {
            int loud = tape.takeNumber(0, MAX_LOUD);
            if (loud == NONE) {
                return false;
            }
            setup.loud = loud;
            return true;
        }
    }

    /** Turns each condition into code that is worked off from left to right, what is joined ahead of what joins it. */
    private static final class LawReader extends LineReader {
        private final Law law = new Law();
        private final int[] waiting = new int[32];
        private int waitingCount;
        private int depth;
        private int brackets;

        LawReader(Tape tape) {
            super(tape);
        }

        void begin() {
            law.clear();
        }

        boolean readLine() {
            int kind = tape.atWord("far") ? Law.FAR : tape.atWord("near") ? Law.NEAR : tape.atWord("as") ? Law.AS : NONE;
            if (kind == NONE) {
                return false;
            }
            tape.next();
            int amount = tape.takeNumber(0, MAX_AMOUNT);
            if (amount == NONE || tape.takeWord("if") && !readCondition()) {
                return false;
            }
            law.addLine(kind, amount);
            return true;
        }

        private boolean readCondition() {
            waitingCount = 0;
            depth = 0;
            brackets = 0;
            for (int k = 0; k < MAX_TAPE; k++) {
                if (!readOpenings() || !readFact()) {
                    return false;
                }
                readClosings();
                int joint = tape.takeWord("and") ? Law.AND : tape.takeWord("or") ? Law.OR : NONE;
                if (joint == NONE) {
                    break;
                }
                settle(joint);
                await(joint);
            }
            settle(Law.OR);
            return brackets == 0;
        }

        private boolean readOpenings() {
            for (int k = 0; k < MAX_TAPE; k++) {
                boolean isBracket = tape.atSign('(');
                if (!isBracket && !tape.atWord("not")) {
                    return true;
                }
                if (depth == MAX_DEPTH) {
                    return false;
                }
                tape.next();
                depth++;
                brackets += isBracket ? 1 : 0;
                await(isBracket ? Law.BRACKET : Law.NOT);
            }
            return false;
        }

        private void readClosings() {
            settle(Law.NOT);
            for (int k = 0; k < MAX_DEPTH && brackets > 0 && tape.takeSign(')'); k++) {
                settle(Law.OR);
                waitingCount--;
                brackets--;
                depth--;
                settle(Law.NOT);
            }
        }

        private boolean readFact() {
            if (tape.takeWord("known")) {
                law.addCode(Law.KNOWN);
                return true;
            }
            int order = NONE;
            boolean adds = false;
            for (int k = 0; k < MAX_TAPE; k++) {
                int part = partHere();
                if (part == Law.NO_PART) {
                    return false;
                }
                tape.next();
                law.addCode(part);
                if (adds) {
                    law.addCode(Law.ADD);
                }
                adds = tape.atSign('+');
                if (!adds && order != NONE) {
                    law.addCode(order);
                    return true;
                }
                if (!adds) {
                    order = tape.atSign('<') ? Law.LESS : tape.atSign('>') ? Law.MORE : NONE;
                }
                if (!adds && order == NONE) {
                    return false;
                }
                tape.next();
            }
            return false;
        }

        private int partHere() {
            if (tape.atNumber(0, MAX_NUMBER)) {
                return tape.number;
            }
            if (tape.atWord("thing")) {
                return Law.THING;
            }
            if (tape.atWord("wording")) {
                return Law.WORDING;
            }
            if (tape.atWord("who")) {
                return Law.WHO;
            }
            if (tape.atWord("whom")) {
                return Law.WHOM;
            }
            if (tape.atWord("apart")) {
                return Law.APART;
            }
            if (tape.atWord("ear")) {
                return Law.EAR;
            }
            return tape.atWord("day") ? Law.DAY : Law.NO_PART;
        }

        private void await(int joint) {
            if (waitingCount < waiting.length) {
                waiting[waitingCount] = joint;
                waitingCount++;
            }
        }

        /** What binds as tightly as the joint or tighter has all its parts by now. */
        private void settle(int joint) {
            for (int k = waitingCount - 1; k >= 0 && waiting[k] >= joint; k--) {
                law.addCode(waiting[k]);
                depth -= waiting[k] == Law.NOT ? 1 : 0;
                waitingCount = k;
            }
        }
    }

    /** The lines of the law, each with its condition as code; none of it for a line that always holds. */
    private static final class Law {
        static final int FAR = 0;
        static final int NEAR = 1;
        static final int AS = 2;

        // Codes: a number stands for itself; the joints lie the higher the tighter they bind.
        static final int THING = -1;
        static final int WORDING = -2;
        static final int WHO = -3;
        static final int WHOM = -4;
        static final int APART = -5;
        static final int EAR = -6;
        static final int DAY = -7;
        static final int KNOWN = -8;
        static final int ADD = -9;
        static final int LESS = -10;
        static final int MORE = -11;
        static final int NOT = -12;
        static final int AND = -13;
        static final int OR = -14;
        static final int BRACKET = -15;
        static final int NO_PART = -16;

        private int lines = NONE;
        private final int[] kinds = new int[MAX_LAW_LINES];
        private final int[] amounts = new int[MAX_LAW_LINES];
        private final int[] ends = new int[MAX_LAW_LINES];
        private final int[] code = new int[MAX_TAPE];
        private int codeLength;
        private final int[] given = new int[8];
        private final int[] stack = new int[32];
        private int farther;
        private int shift;

        void clear() {
            lines = 0;
            codeLength = 0;
        }

        void addLine(int kind, int amount) {
            if (lines >= 0 && lines < MAX_LAW_LINES) {
                kinds[lines] = kind;
                amounts[lines] = amount;
                ends[lines] = codeLength;
                lines++;
            }
        }

        void addCode(int one) {
            if (codeLength < MAX_TAPE) {
                code[codeLength] = one;
                codeLength++;
            }
        }

        void copyFrom(Law other) {
            lines = other.lines;
            codeLength = other.codeLength;
            System.arraycopy(other.kinds, 0, kinds, 0, MAX_LAW_LINES);
            System.arraycopy(other.amounts, 0, amounts, 0, MAX_LAW_LINES);
            System.arraycopy(other.ends, 0, ends, 0, MAX_LAW_LINES);
            System.arraycopy(other.code, 0, code, 0, codeLength);
        }

        void tell(int who, int thing, int wording, int whom) {
            given[-1 - THING] = thing;
            given[-1 - WORDING] = wording;
            given[-1 - WHO] = who;
            given[-1 - WHOM] = whom;
        }

        /** Works out farther and shift for the saying told ahead. */
        void judge(int apart, int ear, int day, boolean known) {
            given[-1 - APART] = apart;
            given[-1 - EAR] = ear;
            given[-1 - DAY] = day;
            given[-1 - KNOWN] = known ? 1 : 0;
            farther = 0;
            shift = 0;
            for (int line = 0; line < lines; line++) {
                if (holds(line)) {
                    farther += kinds[line] == FAR ? amounts[line] : kinds[line] == NEAR ? -amounts[line] : 0;
                    shift += kinds[line] == AS ? amounts[line] : 0;
                }
            }
        }

        private boolean holds(int line) {
            int top = 0;
            for (int k = line == 0 ? 0 : ends[line - 1]; k < ends[line]; k++) {
                int one = code[k];
                if (one >= KNOWN) {
                    // Six brackets and nots deep, no more than 17 values wait at once.
                    if (top < stack.length) {
                        stack[top] = one >= 0 ? one : given[-1 - one];
                        top++;
                    }
                } else if (one == NOT) {
                    if (top > 0) {
                        stack[top - 1] = 1 - stack[top - 1];
                    }
                } else if (top > 1) {
                    top--;
                    int a = stack[top - 1];
                    int b = stack[top];
                    switch (one) {
                        case ADD:
                            stack[top - 1] = a + b;
                            break;
                        case LESS:
                            stack[top - 1] = a < b ? 1 : 0;
                            break;
                        case MORE:
                            stack[top - 1] = a > b ? 1 : 0;
                            break;
                        case AND:
                            stack[top - 1] = a & b;
                            break;
                        default:
                            stack[top - 1] = a | b;
                            break;
                    }
                }
            }
            return top == 0 || stack[0] != 0;
        }
    }

    /** What texts alone tell. */
    private static final class Setup {
        private int things;
        private final int[] wordings = new int[MAX_THINGS];
        private int people;
        private final int[] ears = new int[MAX_PEOPLE];
        private final int[] stammers = new int[MAX_PEOPLE];
        private int rules;
        private final int[] firsts = new int[MAX_RULES];
        private final int[] seconds = new int[MAX_RULES];
        private final int[] thirds = new int[MAX_RULES];
        private int loud = FIRST_LOUD;
        private int texts;

        void copyFrom(Setup other) {
            things = other.things;
            people = other.people;
            rules = other.rules;
            loud = other.loud;
            texts = other.texts;
            System.arraycopy(other.wordings, 0, wordings, 0, MAX_THINGS);
            System.arraycopy(other.ears, 0, ears, 0, MAX_PEOPLE);
            System.arraycopy(other.stammers, 0, stammers, 0, MAX_PEOPLE);
            System.arraycopy(other.firsts, 0, firsts, 0, MAX_RULES);
            System.arraycopy(other.seconds, 0, seconds, 0, MAX_RULES);
            System.arraycopy(other.thirds, 0, thirds, 0, MAX_RULES);
        }

        /** All that follows from these things, with themselves. */
        int following(int known) {
            int all = known;
            for (int round = 0; round < MAX_THINGS; round++) {
                int before = all;
                for (int k = 0; k < rules; k++) {
                    int needed = 1 << firsts[k] | 1 << seconds[k];
                    all |= (all & needed) == needed ? 1 << thirds[k] : 0;
                }
                if (all == before) {
                    break;
                }
            }
            return all;
        }
    }

    /** What acts change; of the log only its length, for its rows never change once they are written. */
    private static final class State {
        private long store;
        private final int[] knows = new int[MAX_PEOPLE];
        private final int[] xs = new int[MAX_PEOPLE];
        private final int[] ys = new int[MAX_PEOPLE];
        private int absent;
        private int day;
        private int seed = 1;
        private int rows;

        void copyFrom(State other) {
            store = other.store;
            absent = other.absent;
            day = other.day;
            seed = other.seed;
            rows = other.rows;
            System.arraycopy(other.knows, 0, knows, 0, MAX_PEOPLE);
            System.arraycopy(other.xs, 0, xs, 0, MAX_PEOPLE);
            System.arraycopy(other.ys, 0, ys, 0, MAX_PEOPLE);
        }

        boolean isAbsent(int person) {
            return (absent >> person & 1) != 0;
        }

        boolean isKnown(int person, int thing) {
            return (knows[person] >> thing & 1) != 0;
        }

        int distance(int person, int other) {
            return Math.max(Math.abs(xs[person] - xs[other]), Math.abs(ys[person] - ys[other]));
        }

        void seat(int person, int x, int y) {
            xs[person] = x;
            ys[person] = y;
        }

        void swapSeats(int person, int other) {
            int x = xs[person];
            int y = ys[person];
            seat(person, xs[other], ys[other]);
            seat(other, x, y);
        }

        int seatedAt(int x, int y, int people) {
            for (int p = 0; p < people; p++) {
                if (xs[p] == x && ys[p] == y) {
                    return p;
                }
            }
            return NONE;
        }

        int draw() {
            seed = 1103515245 * seed + 12345;
            return seed >>> 16 & 32767;
        }
    }

    /** Rows from the oldest on; each uses a saying up, so there are never more than there are sayings. */
    private static final class Log {
        private final int[] days = new int[MAX_SAYINGS];
        private final int[] speakers = new int[MAX_SAYINGS];
        private final int[] sayings = new int[MAX_SAYINGS];
        private final int[] learners = new int[MAX_SAYINGS];
        private final long[] learnt = new long[MAX_SAYINGS];
        private final boolean[] stammered = new boolean[MAX_SAYINGS];

        void copyFrom(Log other) {
            System.arraycopy(other.days, 0, days, 0, MAX_SAYINGS);
            System.arraycopy(other.speakers, 0, speakers, 0, MAX_SAYINGS);
            System.arraycopy(other.sayings, 0, sayings, 0, MAX_SAYINGS);
            System.arraycopy(other.learners, 0, learners, 0, MAX_SAYINGS);
            System.arraycopy(other.learnt, 0, learnt, 0, MAX_SAYINGS);
            System.arraycopy(other.stammered, 0, stammered, 0, MAX_SAYINGS);
        }

        int learntBy(int row, int person) {
            return (learners[row] >> person & 1) == 0 ? NONE : (int) (learnt[row] >>> 4 * person) & 15;
        }

        /** The latest row ahead of that one by which the person learnt the thing. */
        int rowBefore(int row, int person, int thing) {
            for (int k = row - 1; k >= 0; k--) {
                if (learntBy(k, person) == thing) {
                    return k;
                }
            }
            return NONE;
        }

        int taughtBy(int person, int rows) {
            int taught = 0;
            for (int k = 0; k < rows; k++) {
                taught += speakers[k] == person ? Integer.bitCount(learners[k]) : 0;
            }
            return taught;
        }

        int chainLength(int rows, int person, int thing) {
            int length = 0;
            int row = rowBefore(rows, person, thing);
            while (row >= 0 && length < MAX_SAYINGS) {
                length++;
                row = rowBefore(row, speakers[row], sayings[row] / MAX_WORDINGS);
            }
            return length;
        }

        int chainBegin(int rows, int person, int thing) {
            int begin = person;
            int row = rowBefore(rows, person, thing);
            for (int k = 0; k < MAX_SAYINGS && row >= 0; k++) {
                begin = speakers[row];
                row = rowBefore(row, begin, sayings[row] / MAX_WORDINGS);
            }
            return begin;
        }
    }

    /** All that an image keeps, with the acts and what is seen at once. */
    private static final class School {
        private final Setup setup = new Setup();
        private final State state = new State();
        private final Law law = new Law();
        private final Log log = new Log();
        private final State held = new State();
        private final int[] minds = new int[MAX_PEOPLE];

        void copyFrom(School other) {
            setup.copyFrom(other.setup);
            state.copyFrom(other.state);
            law.copyFrom(other.law);
            log.copyFrom(other.log);
        }

        int allThings() {
            return (1 << setup.things) - 1;
        }

        int present() {
            return (1 << setup.people) - 1 & ~state.absent;
        }

        int saidWordings(int thing) {
            return (int) (state.store >>> MAX_WORDINGS * thing) & (1 << MAX_WORDINGS) - 1;
        }

        int leftWordings(int thing) {
            return (1 << setup.wordings[thing]) - 1 & ~saidWordings(thing);
        }

        boolean isLeft(int thing, int wording) {
            return (leftWordings(thing) >> wording & 1) != 0;
        }

        int countLeft(int thing) {
            return Integer.bitCount(leftWordings(thing));
        }

        int countLeftOf(int things) {
            int left = 0;
            for (int thing = 0; thing < setup.things; thing++) {
                left += (things >> thing & 1) != 0 ? countLeft(thing) : 0;
            }
            return left;
        }

        int leftThings() {
            int left = 0;
            for (int thing = 0; thing < setup.things; thing++) {
                left |= leftWordings(thing) != 0 ? 1 << thing : 0;
            }
            return left;
        }

        int saidThings() {
            int said = 0;
            for (int thing = 0; thing < setup.things; thing++) {
                said |= saidWordings(thing) != 0 ? 1 << thing : 0;
            }
            return said;
        }

        int knowers(int thing) {
            int knowers = 0;
            for (int p = 0; p < setup.people; p++) {
                knowers |= state.isKnown(p, thing) ? 1 << p : 0;
            }
            return knowers;
        }

        int knownBy(int people) {
            int known = 0;
            for (int p = 0; p < setup.people; p++) {
                known |= (people >> p & 1) != 0 ? state.knows[p] : 0;
            }
            return known;
        }

        boolean canTell(int who, int thing) {
            return !state.isAbsent(who) && state.isKnown(who, thing);
        }

        /** What a saying is taken as by one who knows its thing, or does not; NONE if it is not heard. */
        int taken(int who, int thing, int wording, int whom, boolean known) {
            if (who == whom || state.isAbsent(who) || state.isAbsent(whom) || setup.things <= 0) {
                return NONE;
            }
            int apart = state.distance(who, whom);
            int ear = setup.ears[whom];
            law.tell(who, thing, wording, whom);
            law.judge(apart, ear, state.day, known);
            if (apart > ear + setup.loud + law.farther) {
                return NONE;
            }
            return (thing + law.shift) % setup.things;
        }

        int takenNow(int who, int thing, int wording, int whom) {
            return taken(who, thing, wording, whom, state.isKnown(whom, thing));
        }

        /** Who takes the saying as that thing; of NONE, who does not hear it. */
        int takers(int who, int thing, int wording, int as) {
            int takers = 0;
            for (int p = 0; p < setup.people; p++) {
                takers |= taken(who, thing, wording, p, state.isKnown(p, thing)) == as ? 1 << p : 0;
            }
            return takers;
        }

        int hearers(int who, int thing, int wording) {
            return (1 << setup.people) - 1 & ~takers(who, thing, wording, NONE);
        }

        int speak(int who, int thing, int wording) {
            state.store |= 1L << numberOf(thing, wording);
            boolean stammered = state.draw() % 100 < setup.stammers[who];
            int learners = 0;
            long learnt = 0;
            for (int p = 0; p < setup.people && !stammered; p++) {
                int as = taken(who, thing, wording, p, state.isKnown(p, thing));
                if (as != NONE && !state.isKnown(p, as)) {
                    learners |= 1 << p;
                    learnt |= (long) as << 4 * p;
                    state.knows[p] |= 1 << as;
                }
            }
            if (state.rows < MAX_SAYINGS) {
                log.days[state.rows] = state.day;
                log.speakers[state.rows] = who;
                log.sayings[state.rows] = numberOf(thing, wording);
                log.learners[state.rows] = learners;
                log.learnt[state.rows] = learnt;
                log.stammered[state.rows] = stammered;
                state.rows++;
            }
            return learners;
        }

        int runTerm(int n) {
            int said = 0;
            for (int k = 0; k < n && setup.people > 0 && setup.things > 0; k++) {
                int who = state.draw() % setup.people;
                int thing = state.draw() % setup.things;
                int left = leftWordings(thing);
                if (left != 0 && canTell(who, thing)) {
                    speak(who, thing, Integer.numberOfTrailingZeros(left));
                    said++;
                }
            }
            return said;
        }

        /** Rows that the term writes lie behind the log's end again, once its length is set back. */
        int tryTerm(int n, int seed, int thing) {
            held.copyFrom(state);
            state.seed = seed;
            int said = runTerm(n);
            int answer = thing == NONE ? said : Integer.bitCount(knowers(thing));
            state.copyFrom(held);
            return answer;
        }

        int countLast() {
            System.arraycopy(state.knows, 0, minds, 0, MAX_PEOPLE);
            boolean more = true;
            // Each round but the last teaches somebody something.
            for (int round = 0; round <= MAX_PEOPLE * MAX_THINGS && more; round++) {
                more = false;
                for (int who = 0; who < setup.people; who++) {
                    more |= !state.isAbsent(who) && tellAll(who);
                }
            }
            int known = 0;
            for (int p = 0; p < setup.people; p++) {
                known |= state.isAbsent(p) ? 0 : minds[p];
            }
            return countLeftOf(known);
        }

        private boolean tellAll(int who) {
            boolean more = false;
            for (int thing = 0; thing < setup.things; thing++) {
                for (int wording = 0; wording < setup.wordings[thing]; wording++) {
                    if ((minds[who] >> thing & 1) != 0 && isLeft(thing, wording)) {
                        more |= tellOne(who, thing, wording);
                    }
                }
            }
            return more;
        }

        private boolean tellOne(int who, int thing, int wording) {
            boolean more = false;
            for (int p = 0; p < setup.people; p++) {
                int as = taken(who, thing, wording, p, (minds[p] >> thing & 1) != 0);
                if (as != NONE && (minds[p] >> as & 1) == 0) {
                    minds[p] |= 1 << as;
                    more = true;
                }
            }
            return more;
        }
    }

    /**
     * Finds plans: for each set of wordings used up, which sets of knowers can come about by them. Who does not know the
     * thing yet hears it as now, and it does not matter how the others do, so who hears whom rightly is looked up once.
     */
    private static final class Planner {
        private static final int WORDS_OF_SETS = (1 << MAX_PEOPLE) / 64;
        private static final int WORDING_SETS = 1 << MAX_WORDINGS;

        private final School school;
        private final int[] right = new int[MAX_PEOPLE * MAX_WORDINGS];
        private final long[] reached = new long[WORDING_SETS * WORDS_OF_SETS];
        private int left;
        private int all;
        private int first;

        Planner(School school) {
            this.school = school;
        }

        int fewestSayings(int thing) {
            prepare(thing);
            if (first == all) {
                return 0;
            }
            int fewest = NONE;
            mark(0, first);
            for (int used = 0; used < WORDING_SETS; used++) {
                int sayings = Integer.bitCount(used);
                if (fewest != NONE && sayings >= fewest) {
                    continue;
                }
                for (int knowers = 0; knowers <= all; knowers++) {
                    if (isBlank(used, knowers)) {
                        knowers |= 63;
                    } else if (isMarked(used, knowers) && spread(used, knowers)) {
                        fewest = sayings + 1;
                    }
                }
            }
            return fewest;
        }

        int firstSaying(int thing) {
            int fewest = fewestSayings(thing);
            if (fewest <= 0) {
                return NONE;
            }
            keepOnlyWhatLeadsThere(fewest);
            for (int who = 0; who < MAX_PEOPLE; who++) {
                int can = sayableBy(who, first, 0);
                for (int wording = 0; wording < MAX_WORDINGS && can >> wording != 0; wording++) {
                    boolean isLeft = (can >> wording & 1) != 0;
                    if (isLeft && isMarked(1 << wording, afterwards(first, who, wording))) {
                        return 10 * who + wording;
                    }
                }
            }
            return NONE;
        }

        private void prepare(int thing) {
            left = school.leftWordings(thing);
            all = school.present();
            first = school.knowers(thing) & all;
            for (int who = 0; who < school.setup.people; who++) {
                for (int wording = 0; wording < school.setup.wordings[thing]; wording++) {
                    right[who * MAX_WORDINGS + wording] = school.takers(who, thing, wording, thing);
                }
            }
            Arrays.fill(reached, 0);
        }

        private int sayableBy(int who, int knowers, int used) {
            return (knowers >> who & 1) != 0 ? left & ~used : 0;
        }

        private int afterwards(int knowers, int who, int wording) {
            return knowers | right[who * MAX_WORDINGS + wording];
        }

        private boolean isMarked(int used, int knowers) {
            return (reached[used * WORDS_OF_SETS + (knowers >> 6)] >>> (knowers & 63) & 1) != 0;
        }

        /** Whether none of the sixty-four sets is marked that stand in one long with that one: most are passed so. */
        private boolean isBlank(int used, int knowers) {
            return reached[used * WORDS_OF_SETS + (knowers >> 6)] == 0;
        }

        private void mark(int used, int knowers) {
            reached[used * WORDS_OF_SETS + (knowers >> 6)] |= 1L << (knowers & 63);
        }

        private void unmark(int used, int knowers) {
            reached[used * WORDS_OF_SETS + (knowers >> 6)] &= ~(1L << (knowers & 63));
        }

        /** Marks what one saying more leads to; whether all know it then. */
        private boolean spread(int used, int knowers) {
            boolean done = false;
            for (int who = 0; who < MAX_PEOPLE; who++) {
                int can = sayableBy(who, knowers, used);
                for (int wording = 0; wording < MAX_WORDINGS && can >> wording != 0; wording++) {
                    int after = afterwards(knowers, who, wording);
                    // A saying by which nobody learns is in none of the shortest plans.
                    if ((can >> wording & 1) != 0 && after != knowers) {
                        mark(used | 1 << wording, after);
                        done |= after == all;
                    }
                }
            }
            return done;
        }

        /** Goes from the greatest sets down: with one wording more used, a set has a greater number. */
        private void keepOnlyWhatLeadsThere(int fewest) {
            for (int used = WORDING_SETS - 1; used >= 0; used--) {
                int sayings = Integer.bitCount(used);
                for (int knowers = 0; knowers <= all; knowers++) {
                    if (isBlank(used, knowers)) {
                        knowers |= 63;
                    } else if (isMarked(used, knowers)) {
                        boolean leads = sayings == fewest ? knowers == all : sayings < fewest && leadsOn(used, knowers);
                        if (!leads) {
                            unmark(used, knowers);
                        }
                    }
                }
            }
        }

        private boolean leadsOn(int used, int knowers) {
            for (int who = 0; who < MAX_PEOPLE; who++) {
                int can = sayableBy(who, knowers, used);
                for (int wording = 0; wording < MAX_WORDINGS && can >> wording != 0; wording++) {
                    boolean isLeft = (can >> wording & 1) != 0;
                    if (isLeft && isMarked(used | 1 << wording, afterwards(knowers, who, wording))) {
                        return true;
                    }
                }
            }
            return false;
        }
    }

    /** Tries sets, pairs and seats one after another, the least first. */
    private static final class Search {
        private final School school;
        private final int[] heardFrom = new int[MAX_PEOPLE];

        Search(School school) {
            this.school = school;
        }

        int sources(int thing) {
            int best = NONE;
            for (int set = 1; set <= school.allThings(); set++) {
                boolean isCandidate = (set >> thing & 1) == 0 && isFewer(set, best);
                if (isCandidate && (school.setup.following(set) >> thing & 1) != 0) {
                    best = set;
                }
            }
            return best;
        }

        int keptFrom(int person, int thing) {
            if (school.state.isKnown(person, thing)) {
                return KNOWN_ALREADY;
            }
            hearFromEach(thing, (1 << MAX_WORDINGS) - 1);
            int others = school.present() & ~(1 << person);
            int knowers = school.knowers(thing);
            int best = NONE;
            for (int set = 0; set <= others; set++) {
                boolean isCandidate = (set & ~others) == 0 && isFewer(set, best);
                if (isCandidate && (spreadAmong(school.present() & ~set, knowers) >> person & 1) == 0) {
                    best = set;
                }
            }
            return best;
        }

        int fewestSpeakers(int thing) {
            hearFromEach(thing, school.leftWordings(thing));
            int knowers = school.knowers(thing) & school.present();
            int best = NONE;
            for (int set = 0; set <= knowers; set++) {
                boolean isCandidate = (set & ~knowers) == 0 && isFewer(set, best);
                if (isCandidate && (knowers | heardFromAll(set)) == school.present()) {
                    best = set;
                }
            }
            return best;
        }

        private static boolean isFewer(int set, int best) {
            return best == NONE || Integer.bitCount(set) < Integer.bitCount(best);
        }

        private void hearFromEach(int thing, int wordings) {
            for (int who = 0; who < school.setup.people; who++) {
                heardFrom[who] = 0;
                for (int wording = 0; wording < school.setup.wordings[thing]; wording++) {
                    if ((wordings >> wording & 1) != 0) {
                        heardFrom[who] |= school.takers(who, thing, wording, thing);
                    }
                }
            }
        }

        private int heardFromAll(int speakers) {
            int heard = 0;
            for (int who = 0; who < school.setup.people; who++) {
                heard |= (speakers >> who & 1) != 0 ? heardFrom[who] : 0;
            }
            return heard;
        }

        private int spreadAmong(int there, int knowers) {
            int reached = knowers & there;
            for (int round = 0; round < MAX_PEOPLE; round++) {
                reached |= heardFromAll(reached) & there;
            }
            return reached;
        }

        int bestSwap(int who, int thing, int wording) {
            int best = NONE;
            int most = Integer.bitCount(school.hearers(who, thing, wording));
            for (int p = 0; p < school.setup.people; p++) {
                for (int q = p + 1; q < school.setup.people; q++) {
                    int many = hearersIfSwapped(p, q, who, thing, wording);
                    if (many > most) {
                        most = many;
                        best = 10 * p + q;
                    }
                }
            }
            return best;
        }

        int hearersIfSwapped(int p, int q, int who, int thing, int wording) {
            school.state.swapSeats(p, q);
            int many = Integer.bitCount(school.hearers(who, thing, wording));
            school.state.swapSeats(p, q);
            return many;
        }

        int bestCaller(int thing) {
            int best = NONE;
            int most = NONE;
            for (int p = 0; p < school.setup.people; p++) {
                if (school.canTell(p, thing) && school.countLeft(thing) > 0) {
                    int worth = worthOfCalling(p, thing);
                    if (worth > most) {
                        most = worth;
                        best = p;
                    }
                }
            }
            return best;
        }

        int worthOfCalling(int person, int thing) {
            int ignorant = ~school.knowers(thing);
            int most = 0;
            for (int wording = 0; wording < school.setup.wordings[thing]; wording++) {
                if (school.isLeft(thing, wording)) {
                    int taught = school.takers(person, thing, wording, thing) & ignorant;
                    most = Math.max(most, Integer.bitCount(taught));
                }
            }
            return (100 - school.setup.stammers[person]) * most;
        }

        int spotFor(int person, int who, int thing, int wording) {
            int x = school.state.xs[person];
            int y = school.state.ys[person];
            int spot = NONE;
            for (int seat = 0; seat < 100 && spot == NONE; seat++) {
                // One sits at the seat tried before, or at one's own: what another one has is still seen.
                int owner = school.state.seatedAt(seat / 10, seat % 10, school.setup.people);
                if (owner == NONE || owner == person) {
                    school.state.seat(person, seat / 10, seat % 10);
                    spot = school.takenNow(who, thing, wording, person) != NONE ? seat : NONE;
                }
            }
            school.state.seat(person, x, y);
            return spot;
        }
    }
}
