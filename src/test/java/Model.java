import java.util.ArrayDeque;
import java.util.ArrayList;
import java.util.Arrays;
import java.util.HashMap;
import java.util.HashSet;
import java.util.List;
import java.util.Map;
import java.util.NoSuchElementException;
import java.util.Set;
import java.util.TreeMap;
import java.util.TreeSet;

/** The document once more, in the dullest way and with the whole library: what ModelTest holds SaidOnce against. */
final class Model {
    static final int NONE = -1;

    static final class Wrong extends Exception {
        private static final long serialVersionUID = 1L;
        final int at;

        Wrong(int at) {
            this.at = at;
        }
    }

    static final class Person {
        int x;
        int y;
        int ear;
        int stammer;
        boolean absent;
        Set<Integer> knows = new TreeSet<>();

        Person copy() {
            Person p = new Person();
            p.x = x;
            p.y = y;
            p.ear = ear;
            p.stammer = stammer;
            p.absent = absent;
            p.knows = new TreeSet<>(knows);
            return p;
        }
    }

    record Row(int day, int who, int saying, Map<Integer, Integer> learnt, boolean stammered) { }

    interface Fact {
        boolean holds(Map<String, Integer> told);
    }

    interface Sum {
        int of(Map<String, Integer> told);
    }

    record Line(String kind, int amount, Fact fact) { }

    static final class All {
        List<Integer> wordings = new ArrayList<>();
        List<Person> people = new ArrayList<>();
        List<int[]> rules = new ArrayList<>();
        Set<Integer> store = new TreeSet<>();
        List<Line> law;
        List<Row> log = new ArrayList<>();
        int loud = 2;
        int texts;
        int day;
        int seed = 1;

        All copy() {
            All a = new All();
            a.wordings.addAll(wordings);
            for (Person p : people) {
                a.people.add(p.copy());
            }
            a.rules.addAll(rules);
            a.store.addAll(store);
            a.law = law;
            a.log.addAll(log);
            a.loud = loud;
            a.texts = texts;
            a.day = day;
            a.seed = seed;
            return a;
        }
    }

    private List<Integer> tape = new ArrayList<>();
    private int fault = NONE;
    private All all = new All();
    private All image;
    private final ArrayDeque<All> past = new ArrayDeque<>();

    // Texts: cut into tokens first, then read down.

    record Token(char kind, String text, int at) { }

    private List<Token> tokens;
    private int here;

    private void cut() {
        tokens = new ArrayList<>();
        StringBuilder s = new StringBuilder();
        for (int b : tape) {
            s.append((char) b);
        }
        java.util.regex.Matcher m = java.util.regex.Pattern.compile("[a-z]+|[0-9]+|[^ ]", java.util.regex.Pattern.DOTALL).matcher(s);
        while (m.find()) {
            char c = m.group().charAt(0);
            char kind = c >= 'a' && c <= 'z' ? 'w' : c >= '0' && c <= '9' ? 'n' : 's';
            tokens.add(new Token(kind, m.group(), m.start()));
        }
        tokens.add(new Token('e', "", s.length()));
        here = 0;
    }

    private Token token() {
        return tokens.get(here);
    }

    private boolean is(String text) {
        return token().kind != 'e' && token().text.equals(text);
    }

    private boolean take(String text) {
        if (is(text)) {
            here++;
            return true;
        }
        return false;
    }

    private void must(String text) throws Wrong {
        if (!take(text)) {
            throw new Wrong(token().at);
        }
    }

    private int number(int low, int high) throws Wrong {
        Token t = token();
        if (t.kind != 'n' || t.text.length() > 3) {
            throw new Wrong(t.at);
        }
        int n = Integer.parseInt(t.text);
        if (n < low || n > high) {
            throw new Wrong(t.at);
        }
        here++;
        return n;
    }

    private void schoolLine(All a) throws Wrong {
        int things = a.wordings.size();
        Token begin = token();
        if (take("thing")) {
            if (things == 10) {
                throw new Wrong(begin.at);
            }
            a.wordings.add(number(1, 6));
        } else if (take("person")) {
            if (a.people.size() == 10) {
                throw new Wrong(begin.at);
            }
            Person p = new Person();
            p.x = number(0, 9);
            int at = token().at;
            p.y = number(0, 9);
            for (Person q : a.people) {
                if (q.x == p.x && q.y == p.y) {
                    throw new Wrong(at);
                }
            }
            must("ear");
            p.ear = number(0, 9);
            must("stammer");
            p.stammer = number(0, 100);
            if (take("knows")) {
                do {
                    p.knows.add(number(0, things - 1));
                } while (token().kind == 'n');
            }
            a.people.add(p);
        } else if (take("follow")) {
            if (a.rules.size() == 12) {
                throw new Wrong(begin.at);
            }
            a.rules.add(new int[] {number(0, things - 1), number(0, things - 1), number(0, things - 1)});
        } else if (take("said")) {
            int t = number(0, things - 1);
            a.store.add(6 * t + number(0, a.wordings.get(t) - 1));
        } else if (take("absent")) {
            a.people.get(number(0, a.people.size() - 1)).absent = true;
        } else if (take("loud")) {
            a.loud = number(0, 9);
        } else {
            throw new Wrong(begin.at);
        }
    }

    private Line lawLine() throws Wrong {
        Token begin = token();
        if (!is("far") && !is("near") && !is("as")) {
            throw new Wrong(begin.at);
        }
        here++;
        int amount = number(0, 99);
        Fact fact = take("if") ? either(0) : told -> true;
        return new Line(begin.text, amount, fact);
    }

    private Fact either(int depth) throws Wrong {
        Fact left = both(depth);
        while (take("or")) {
            Fact a = left;
            Fact b = both(depth);
            left = told -> a.holds(told) || b.holds(told);
        }
        return left;
    }

    private Fact both(int depth) throws Wrong {
        Fact left = atom(depth);
        while (take("and")) {
            Fact a = left;
            Fact b = atom(depth);
            left = told -> a.holds(told) && b.holds(told);
        }
        return left;
    }

    private Fact atom(int depth) throws Wrong {
        if ((is("not") || is("(")) && depth == 6) {
            throw new Wrong(token().at);
        }
        if (take("not")) {
            Fact inner = atom(depth + 1);
            return told -> !inner.holds(told);
        }
        if (take("(")) {
            Fact inner = either(depth + 1);
            must(")");
            return inner;
        }
        if (take("known")) {
            return told -> told.get("known") == 1;
        }
        Sum a = sum();
        boolean less = is("<");
        if (!less && !is(">")) {
            throw new Wrong(token().at);
        }
        here++;
        Sum b = sum();
        return told -> less ? a.of(told) < b.of(told) : a.of(told) > b.of(told);
    }

    private Sum sum() throws Wrong {
        Sum left = part();
        while (take("+")) {
            Sum a = left;
            Sum b = part();
            left = told -> a.of(told) + b.of(told);
        }
        return left;
    }

    private Sum part() throws Wrong {
        Token t = token();
        if (t.kind == 'w' && List.of("thing", "wording", "who", "whom", "apart", "ear", "day").contains(t.text)) {
            here++;
            return told -> told.get(t.text);
        }
        int n = number(0, 999);
        return told -> n;
    }

    private interface LineBody {
        void read() throws Wrong;
    }

    private int lines(int most, LineBody body) throws Wrong {
        cut();
        tape = new ArrayList<>();
        if (token().kind == 'e') {
            return 0;
        }
        for (int n = 1; ; n++) {
            if (n > most) {
                throw new Wrong(token().at);
            }
            body.read();
            if (token().kind == 'e') {
                return n;
            }
            must(";");
        }
    }

    int feed(int a, int b, int c, int d, int e) {
        if (tape.size() + 20 > 400) {
            return NONE;
        }
        for (int n : new int[] {a, b, c, d, e}) {
            tape.addAll(List.of(n >>> 24, n >>> 16 & 255, n >>> 8 & 255, n & 255));
        }
        return tape.size();
    }

    boolean end(int n) {
        if (n < 0 || n > tape.size()) {
            return false;
        }
        tape = new ArrayList<>(tape.subList(0, n));
        return true;
    }

    int school() {
        All draft = all.copy();
        try {
            fault = NONE;
            lines(14, () -> schoolLine(draft));
        } catch (Wrong w) {
            fault = w.at;
            throw new IllegalArgumentException();
        }
        if (all.texts == 12) {
            throw new UnsupportedOperationException();
        }
        all = draft;
        all.texts++;
        past.clear();
        return all.texts;
    }

    int law() {
        List<Line> draft = new ArrayList<>();
        try {
            fault = NONE;
            lines(12, () -> draft.add(lawLine()));
        } catch (Wrong w) {
            fault = w.at;
            throw new IllegalArgumentException();
        }
        all.law = draft;
        past.clear();
        return draft.size();
    }

    int fault() {
        return fault;
    }

    // What is there.

    private int things() {
        return all.wordings.size();
    }

    private int people() {
        return all.people.size();
    }

    private Person at(int p) {
        return all.people.get(p);
    }

    private void okThing(int t) {
        if (t < 0 || t >= things()) {
            throw new IndexOutOfBoundsException();
        }
    }

    private void okSaying(int t, int w) {
        okThing(t);
        if (w < 0 || w >= all.wordings.get(t)) {
            throw new IndexOutOfBoundsException();
        }
    }

    private void okPerson(int p) {
        if (p < 0 || p >= people()) {
            throw new IndexOutOfBoundsException();
        }
    }

    private void okTwo(int p, int q) {
        okPerson(p);
        okPerson(q);
        if (p == q) {
            throw new IllegalArgumentException();
        }
    }

    private void okTerm(int n) {
        if (n < 0 || n > 40) {
            throw new IllegalArgumentException();
        }
    }

    private static int bits(Iterable<Integer> set) {
        int b = 0;
        for (int k : set) {
            b |= 1 << k;
        }
        return b;
    }

    private static Set<Integer> set(int bits) {
        Set<Integer> s = new TreeSet<>();
        for (int k = 0; k < 31; k++) {
            if ((bits & 1 << k) != 0) {
                s.add(k);
            }
        }
        return s;
    }

    private List<Integer> left(int t) {
        List<Integer> l = new ArrayList<>();
        for (int w = 0; w < all.wordings.get(t); w++) {
            if (!all.store.contains(6 * t + w)) {
                l.add(w);
            }
        }
        return l;
    }

    private Set<Integer> thinking(Set<Integer> known) {
        Set<Integer> s = new TreeSet<>(known);
        boolean more = true;
        while (more) {
            more = false;
            for (int[] r : all.rules) {
                if (s.contains(r[0]) && s.contains(r[1])) {
                    more |= s.add(r[2]);
                }
            }
        }
        return s;
    }

    private static int distance(Person a, Person b) {
        return Math.max(Math.abs(a.x - b.x), Math.abs(a.y - b.y));
    }

    private int take(int who, int t, int w, int whom) {
        Person a = at(who);
        Person b = at(whom);
        if (a.absent || b.absent) {
            return NONE;
        }
        Map<String, Integer> told = new HashMap<>();
        told.put("thing", t);
        told.put("wording", w);
        told.put("who", who);
        told.put("whom", whom);
        told.put("apart", distance(a, b));
        told.put("ear", b.ear);
        told.put("day", all.day);
        told.put("known", b.knows.contains(t) ? 1 : 0);
        int reach = b.ear + all.loud;
        int as = t;
        for (Line l : all.law == null ? List.<Line>of() : all.law) {
            if (l.fact.holds(told)) {
                switch (l.kind) {
                    case "far" -> reach += l.amount;
                    case "near" -> reach -= l.amount;
                    default -> as += l.amount;
                }
            }
        }
        return distance(a, b) <= reach ? as % things() : NONE;
    }

    int thing(int t, int what) {
        okThing(t);
        return switch (what) {
            case 0 -> all.wordings.get(t);
            case 1 -> left(t).size();
            case 2 -> knowers(t);
            case 3 -> sources(t);
            default -> throw new NoSuchElementException();
        };
    }

    private int knowers(int t) {
        int b = 0;
        for (int p = 0; p < people(); p++) {
            b |= at(p).knows.contains(t) ? 1 << p : 0;
        }
        return b;
    }

    /** All sets of the first n numbers, the fewest first, of as many the least first. */
    private static List<Integer> bySize(int n) {
        List<Integer> sets = new ArrayList<>();
        for (int b = 0; b < 1 << n; b++) {
            sets.add(b);
        }
        sets.sort((a, b) -> Integer.bitCount(a) != Integer.bitCount(b) ? Integer.bitCount(a) - Integer.bitCount(b) : a - b);
        return sets;
    }

    private int sources(int t) {
        for (int b : bySize(things())) {
            Set<Integer> s = set(b);
            if (!s.contains(t) && thinking(s).contains(t)) {
                return b;
            }
        }
        return NONE;
    }

    int person(int p, int what) {
        okPerson(p);
        Person a = at(p);
        switch (what) {
            case 0: return a.x;
            case 1: return a.y;
            case 2: return a.ear;
            case 3: return a.stammer;
            case 4: return bits(a.knows);
            case 5: return a.absent ? 1 : 0;
            case 6: return bits(thinking(a.knows));
            case 7:
                Set<Integer> lost = new TreeSet<>(a.knows);
                for (Person b : all.people) {
                    if (b != a && !b.absent) {
                        lost.removeAll(b.knows);
                    }
                }
                return bits(lost);
            default: throw new NoSuchElementException();
        }
    }

    int rule(int k, int what) {
        if (what < 0 || what > 2) {
            throw new NoSuchElementException();
        }
        return k < 0 || k >= all.rules.size() ? NONE : all.rules.get(k)[what];
    }

    long store() {
        long b = 0;
        for (int s : all.store) {
            b |= 1L << s;
        }
        return b;
    }

    int apart(int p, int q) {
        okTwo(p, q);
        return distance(at(p), at(q));
    }

    int hears(int who, int t, int w, int whom) {
        okSaying(t, w);
        okTwo(who, whom);
        return take(who, t, w, whom);
    }

    int audience(int who, int t, int w, boolean right) {
        okPerson(who);
        okSaying(t, w);
        int b = 0;
        for (int p = 0; p < people(); p++) {
            int as = p == who ? NONE : take(who, t, w, p);
            b |= as != NONE && (!right || as == t) ? 1 << p : 0;
        }
        return b;
    }

    // Acts.

    private void act() {
        past.addLast(all.copy());
        if (past.size() > 12) {
            past.removeFirst();
        }
    }

    private int draw() {
        all.seed = (int) (1103515245L * all.seed + 12345L);
        return (int) ((all.seed & 0xffffffffL) >> 16) & 0x7fff;
    }

    private boolean can(int who, int t, int w) {
        return !at(who).absent && at(who).knows.contains(t) && left(t).contains(w);
    }

    private int said(int who, int t, int w) {
        all.store.add(6 * t + w);
        boolean stammered = draw() % 100 < at(who).stammer;
        Map<Integer, Integer> learnt = new TreeMap<>();
        if (!stammered) {
            for (int p = 0; p < people(); p++) {
                int as = p == who ? NONE : take(who, t, w, p);
                if (as != NONE && !at(p).knows.contains(as)) {
                    learnt.put(p, as);
                }
            }
            learnt.forEach((p, as) -> at(p).knows.add(as));
        }
        all.log.add(0, new Row(all.day, who, 6 * t + w, learnt, stammered));
        while (all.log.size() > 60) {
            all.log.remove(60);
        }
        return bits(learnt.keySet());
    }

    int say(int who, int t, int w) {
        okPerson(who);
        okSaying(t, w);
        if (!can(who, t, w)) {
            throw new IllegalStateException();
        }
        act();
        return said(who, t, w);
    }

    int think(int p) {
        okPerson(p);
        act();
        Set<Integer> more = thinking(at(p).knows);
        more.removeAll(at(p).knows);
        at(p).knows.addAll(more);
        return bits(more);
    }

    boolean away(int p, boolean absent) {
        okPerson(p);
        act();
        boolean was = at(p).absent;
        at(p).absent = absent;
        return was != absent;
    }

    private void swap(int p, int q) {
        Person a = at(p);
        Person b = at(q);
        int x = a.x;
        int y = a.y;
        a.x = b.x;
        a.y = b.y;
        b.x = x;
        b.y = y;
    }

    int change(int p, int q) {
        okTwo(p, q);
        act();
        swap(p, q);
        return distance(at(p), at(q));
    }

    int day() {
        act();
        int n = 0;
        for (Person p : all.people) {
            n += p.absent ? 1 : 0;
            p.absent = false;
        }
        all.day++;
        return n;
    }

    private int termOf(int n) {
        int done = 0;
        if (people() == 0 || things() == 0) {
            return 0;
        }
        for (int k = 0; k < n; k++) {
            int who = draw() % people();
            int t = draw() % things();
            if (!left(t).isEmpty() && can(who, t, left(t).get(0))) {
                said(who, t, left(t).get(0));
                done++;
            }
        }
        return done;
    }

    int term(int n) {
        okTerm(n);
        act();
        return termOf(n);
    }

    // Sets.

    int sayable() {
        int b = 0;
        for (int t = 0; t < things(); t++) {
            for (Person p : all.people) {
                b |= !p.absent && p.knows.contains(t) && !left(t).isEmpty() ? 1 << t : 0;
            }
        }
        return b;
    }

    int dumb() {
        int b = 0;
        for (int p = 0; p < people(); p++) {
            boolean any = false;
            for (int s = 0; s < 60; s++) {
                any |= s / 6 < things() && can(p, s / 6, s % 6);
            }
            b |= any ? 0 : 1 << p;
        }
        return b;
    }

    int silent() {
        int b = 0;
        for (int t = 0; t < things(); t++) {
            b |= left(t).isEmpty() ? 1 << t : 0;
        }
        return b;
    }

    private boolean allPresentKnow(int t) {
        for (Person p : all.people) {
            if (!p.absent && !p.knows.contains(t)) {
                return false;
            }
        }
        return true;
    }

    /** The whole school is copied for each saying tried: the fewest more by which all know the thing; 99 for none. */
    private int more(int t, Map<String, Integer> seen) {
        if (allPresentKnow(t)) {
            return 0;
        }
        String key = knowers(t) + "/" + left(t);
        Integer had = seen.get(key);
        if (had != null) {
            return had;
        }
        int best = 99;
        for (int who = 0; who < people(); who++) {
            for (int w : left(t)) {
                if (can(who, t, w)) {
                    best = Math.min(best, 1 + after(who, t, w, seen));
                }
            }
        }
        best = Math.min(best, 99);
        seen.put(key, best);
        return best;
    }

    private int after(int who, int t, int w, Map<String, Integer> seen) {
        All before = all;
        int heard = audience(who, t, w, true);
        all = all.copy();
        all.store.add(6 * t + w);
        for (int p : set(heard)) {
            at(p).knows.add(t);
        }
        int n = more(t, seen);
        all = before;
        return n;
    }

    int plan(int t, boolean first) {
        okThing(t);
        Map<String, Integer> seen = new HashMap<>();
        int fewest = more(t, seen);
        if (fewest == 99) {
            return NONE;
        }
        if (!first) {
            return fewest;
        }
        for (int who = 0; who < people(); who++) {
            for (int w : left(t)) {
                if (fewest > 0 && can(who, t, w) && 1 + after(who, t, w, seen) == fewest) {
                    return 10 * who + w;
                }
            }
        }
        return NONE;
    }

    int kept(int p, int t) {
        okPerson(p);
        okThing(t);
        if (at(p).knows.contains(t)) {
            return -2;
        }
        All before = all;
        for (int b : bySize(people())) {
            Set<Integer> gone = set(b);
            boolean fits = !gone.contains(p);
            for (int q : gone) {
                fits &= !before.people.get(q).absent;
            }
            if (!fits) {
                continue;
            }
            all = before.copy();
            gone.forEach(q -> at(q).absent = true);
            boolean more = true;
            while (more) {
                more = false;
                for (int who = 0; who < people(); who++) {
                    for (int w = 0; w < all.wordings.get(t); w++) {
                        if (!at(who).absent && at(who).knows.contains(t)) {
                            for (int q : set(audience(who, t, w, true))) {
                                more |= at(q).knows.add(t);
                            }
                        }
                    }
                }
            }
            boolean learnt = at(p).knows.contains(t);
            all = before;
            if (!learnt) {
                return b;
            }
        }
        return -99;
    }

    int seats(int who, int t, int w, boolean many) {
        okPerson(who);
        okSaying(t, w);
        int most = Integer.bitCount(audience(who, t, w, false));
        int pair = NONE;
        for (int p = 0; p < people(); p++) {
            for (int q = p + 1; q < people(); q++) {
                swap(p, q);
                int n = Integer.bitCount(audience(who, t, w, false));
                swap(p, q);
                if (n > most) {
                    most = n;
                    pair = 10 * p + q;
                }
            }
        }
        return many ? most : pair;
    }

    long what(int who) {
        List<Integer> told = tape;
        tape = new ArrayList<>();
        okPerson(who);
        if (told.size() != people()) {
            throw new IllegalArgumentException();
        }
        for (int b : told) {
            if (b != 255 && b >= things()) {
                throw new IllegalArgumentException();
            }
        }
        long found = 0;
        for (int s = 0; s < 60; s++) {
            if (s / 6 >= things() || s % 6 >= all.wordings.get(s / 6)) {
                continue;
            }
            boolean fits = true;
            for (int p = 0; p < people(); p++) {
                int due = told.get(p) == 255 ? NONE : told.get(p);
                fits &= p == who || take(who, s / 6, s % 6, p) == due;
            }
            found |= fits ? 1L << s : 0;
        }
        return found;
    }

    int exam() {
        int b = 0;
        for (Person p : all.people) {
            for (int t : thinking(p.knows)) {
                if (!p.absent && !p.knows.contains(t) && left(t).size() == all.wordings.get(t)) {
                    b |= 1 << t;
                }
            }
        }
        return b;
    }

    int last() {
        All before = all;
        all = all.copy();
        boolean more = true;
        while (more) {
            more = false;
            for (int who = 0; who < people(); who++) {
                for (int t = 0; t < things(); t++) {
                    for (int w : left(t)) {
                        if (!can(who, t, w)) {
                            continue;
                        }
                        for (int p = 0; p < people(); p++) {
                            int as = p == who ? NONE : take(who, t, w, p);
                            more |= as != NONE && at(p).knows.add(as);
                        }
                    }
                }
            }
        }
        int n = 0;
        for (int t : set(sayable())) {
            n += left(t).size();
        }
        all = before;
        return n;
    }

    int alike(int p, int q) {
        okTwo(p, q);
        int b = 0;
        for (int t = 0; t < things(); t++) {
            b |= at(p).knows.contains(t) == at(q).knows.contains(t) ? 1 << t : 0;
        }
        return b;
    }

    int ask(int p, int q) {
        okTwo(p, q);
        for (int t = 0; t < things(); t++) {
            if (at(p).knows.contains(t) != at(q).knows.contains(t)) {
                return t;
            }
        }
        return NONE;
    }

    int groups(boolean most) {
        Map<Set<Integer>, Integer> sizes = new HashMap<>();
        for (Person p : all.people) {
            sizes.merge(p.knows, 1, Integer::sum);
        }
        return most ? sizes.values().stream().mapToInt(n -> n).max().orElse(0) : sizes.size();
    }

    /** The game played out: own sayings of who is on turn, of the other one, and shared ones. */
    private static boolean wins(int own, int others, int shared, Map<List<Integer>, Boolean> seen) {
        List<Integer> key = List.of(own, others, shared);
        Boolean had = seen.get(key);
        if (had == null) {
            had = own > 0 && !wins(others, own - 1, shared, seen) || shared > 0 && !wins(others, own, shared - 1, seen);
            seen.put(key, had);
        }
        return had;
    }

    private int[] shares(int p, int q) {
        int[] n = new int[3];
        for (int t = 0; t < things(); t++) {
            boolean a = at(p).knows.contains(t);
            boolean b = at(q).knows.contains(t);
            if (a || b) {
                n[a && b ? 2 : a ? 0 : 1] += left(t).size();
            }
        }
        return n;
    }

    boolean keeps(int p, int q) {
        okTwo(p, q);
        int[] n = shares(p, q);
        return wins(n[0], n[1], n[2], new HashMap<>());
    }

    int margin(int p, int q) {
        okTwo(p, q);
        int[] n = shares(p, q);
        boolean first = true;
        for (int k = n[2]; k > 0; k--) {
            n[first ? 0 : 1]++;
            first = !first;
        }
        return n[0] - n[1];
    }

    int call(int t, boolean much) {
        okThing(t);
        int best = NONE;
        int most = 0;
        for (int p = people() - 1; p >= 0; p--) {
            if (at(p).absent || !at(p).knows.contains(t) || left(t).isEmpty()) {
                continue;
            }
            int n = 0;
            for (int w : left(t)) {
                n = Math.max(n, Integer.bitCount(audience(p, t, w, true) & ~knowers(t)));
            }
            n *= 100 - at(p).stammer;
            if (n >= most) {
                most = n;
                best = p;
            }
        }
        return much ? most : best;
    }

    private int[] tried(int n, int seed, int t) {
        All before = all;
        all = all.copy();
        all.seed = seed;
        int done = termOf(n);
        int know = t == NONE ? 0 : Integer.bitCount(knowers(t));
        all = before;
        return new int[] {done, know};
    }

    int trial(int n, int t) {
        if (t != NONE) {
            okThing(t);
        }
        okTerm(n);
        return tried(n, all.seed, t)[t == NONE ? 0 : 1];
    }

    int span(int n, boolean most) {
        okTerm(n);
        int[] said = new int[6];
        for (int k = 0; k < 6; k++) {
            said[k] = tried(n, k + 1, NONE)[0];
        }
        Arrays.sort(said);
        return said[most ? 5 : 0];
    }

    // The log, the latest row first.

    private int howFrom(int from, int p, int t) {
        for (int k = from; k < all.log.size(); k++) {
            Integer as = all.log.get(k).learnt.get(p);
            if (as != null && as == t) {
                return k;
            }
        }
        return NONE;
    }

    int how(int p, int t) {
        okPerson(p);
        okThing(t);
        return howFrom(0, p, t);
    }

    int teacher() {
        Map<Integer, Integer> taught = new TreeMap<>();
        for (Row r : all.log) {
            taught.merge(r.who, r.learnt.size(), Integer::sum);
        }
        int best = NONE;
        for (int p : taught.keySet()) {
            if (taught.get(p) > (best == NONE ? 0 : taught.get(best))) {
                best = p;
            }
        }
        return best;
    }

    int chain(int p, int t, boolean begin) {
        okPerson(p);
        okThing(t);
        if (!at(p).knows.contains(t)) {
            return begin ? NONE : 0;
        }
        int n = 0;
        int who = p;
        int of = t;
        for (int k = howFrom(0, who, of); k != NONE; k = howFrom(k + 1, who, of)) {
            n++;
            who = all.log.get(k).who;
            of = all.log.get(k).saying / 6;
        }
        return begin ? who : n;
    }

    int spot(int p, int who, int t, int w) {
        okSaying(t, w);
        okTwo(p, who);
        All before = all;
        try {
            for (int x = 0; x < 10; x++) {
                for (int y = 0; y < 10; y++) {
                    all = before.copy();
                    boolean free = true;
                    for (int q = 0; q < people(); q++) {
                        free &= q == p || at(q).x != x || at(q).y != y;
                    }
                    at(p).x = x;
                    at(p).y = y;
                    if (free && take(who, t, w, p) != NONE) {
                        return 10 * x + y;
                    }
                }
            }
            return NONE;
        } finally {
            all = before;
        }
    }

    int speakers(int t) {
        okThing(t);
        for (int b : bySize(people())) {
            Set<Integer> knowing = set(knowers(t));
            boolean fits = true;
            for (int p : set(b)) {
                fits &= !at(p).absent && at(p).knows.contains(t);
                for (int w : left(t)) {
                    knowing.addAll(set(audience(p, t, w, true)));
                }
            }
            for (int p = 0; p < people(); p++) {
                fits &= at(p).absent || knowing.contains(p);
            }
            if (fits) {
                return b;
            }
        }
        return NONE;
    }

    int between(int p, int q) {
        okTwo(p, q);
        int b = 0;
        for (int t = 0; t < things(); t++) {
            for (int w : left(t)) {
                int as = can(p, t, w) ? take(p, t, w, q) : NONE;
                b |= as == NONE ? 0 : 1 << as;
            }
        }
        return b;
    }

    int echo(int who, int t, int w, boolean most) {
        okPerson(who);
        okSaying(t, w);
        Map<Integer, Integer> taken = new TreeMap<>();
        for (int p : set(audience(who, t, w, false))) {
            taken.merge(take(who, t, w, p), 1, Integer::sum);
        }
        if (!most) {
            return taken.size();
        }
        int best = NONE;
        for (int as : taken.keySet()) {
            if (best == NONE || taken.get(as) > taken.get(best)) {
                best = as;
            }
        }
        return best;
    }

    int learnt(int ago, int p) {
        okPerson(p);
        return ago < 0 || ago >= all.log.size() ? NONE : all.log.get(ago).learnt.getOrDefault(p, NONE);
    }

    int log(int ago, int what) {
        if (what < 0 || what > 4) {
            throw new NoSuchElementException();
        }
        if (ago < 0 || ago >= all.log.size()) {
            return NONE;
        }
        Row r = all.log.get(ago);
        return new int[] {r.day, r.who, r.saying, bits(new HashSet<>(r.learnt.keySet())), r.stammered ? 1 : 0}[what];
    }

    int seed(int n) {
        int was = all.seed;
        all.seed = n;
        return was;
    }

    boolean undo() {
        if (past.isEmpty()) {
            return false;
        }
        all = past.removeLast();
        return true;
    }

    void image() {
        image = all.copy();
    }

    boolean back() {
        if (image == null) {
            return false;
        }
        all = image.copy();
        past.clear();
        return true;
    }

    int count(int what) {
        int absent = 0;
        int left = 0;
        for (int p = 0; p < people(); p++) {
            absent |= at(p).absent ? 1 << p : 0;
        }
        for (int t = 0; t < things(); t++) {
            left += left(t).size();
        }
        int[] counts = {things(), people(), all.rules.size(), all.texts, all.law == null ? NONE : all.law.size(), all.day,
            all.loud, all.store.size(), left, absent, all.log.size(), past.size()};
        return what < 0 || what > 11 ? NONE : counts[what];
    }
}
