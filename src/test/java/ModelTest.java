import java.util.ArrayList;
import java.util.List;
import java.util.Random;
import java.util.concurrent.Callable;

/** Random runs of calls on SaidOnce and on the dull model of the document: all answers must be the same. */
public final class ModelTest {
    private static final int RUNS = 400;
    private static final int CALLS = 450;

    private final Random random;
    private final int run;
    private final SaidOnce x = new SaidOnce();
    private final Model m = new Model();
    private final List<String> done = new ArrayList<>();
    private int calls;
    private boolean differs;

    private ModelTest(int run) {
        this.run = run;
        this.random = new Random(run);
    }

    public static void main(String[] args) {
        int wrong = 0;
        long calls = 0;
        for (int run = 0; run < RUNS && wrong < 5; run++) {
            ModelTest test = new ModelTest(run);
            test.go();
            wrong += test.differs ? 1 : 0;
            calls += test.calls;
        }
        System.out.println("ModelTest: " + calls + " calls, " + wrong + " runs not as due");
        if (wrong != 0) {
            System.exit(1);
        }
    }

    private void go() {
        while (calls < CALLS && !differs) {
            int kind = random.nextInt(100);
            if (calls < 40 && kind < 50 || kind < 1) {
                text(true, schoolText());
            } else if (kind < 4) {
                text(false, lawText());
            } else if (kind < 6) {
                toldTape();
            } else {
                question();
            }
        }
    }

    private void same(String call, Callable<?> ours, Callable<?> theirs) {
        calls++;
        String got = Check.outcome(ours);
        String due = Check.outcome(theirs);
        done.add(call + " = " + got);
        if (!got.equals(due) && !differs) {
            differs = true;
            System.out.println("run " + run + ": " + call + " answered " + got + ", due is " + due);
            for (String one : done.subList(Math.max(0, done.size() - 25), done.size())) {
                System.out.println("    " + one);
            }
        }
    }

    private int upTo(int n) {
        return random.nextInt(n + 1);
    }

    private boolean flip() {
        return random.nextBoolean();
    }

    private boolean rarely() {
        return random.nextInt(40) == 0;
    }

    private String schoolText() {
        List<String> lines = new ArrayList<>();
        int n = rarely() ? 15 : 1 + upTo(rarely() ? 13 : 6);
        int things = m.count(0);
        int people = m.count(1);
        for (int k = 0; k < n; k++) {
            switch (things < 2 ? 0 : people < 2 ? 1 : random.nextInt(6)) {
                case 0 -> {
                    lines.add("thing " + (1 + upTo(5)));
                    things++;
                }
                case 1 -> {
                    lines.add(personLine(things));
                    people++;
                }
                case 2 -> lines.add("follow " + upTo(things - 1) + " " + upTo(things - 1) + " " + upTo(things - 1));
                case 3 -> lines.add("said " + upTo(things - 1) + " " + upTo(1));
                case 4 -> lines.add(rarely() ? "absent " + upTo(people) : "loud " + upTo(4));
                default -> {
                    lines.add(personLine(things));
                    people++;
                }
            }
        }
        return spoilt(String.join(flip() ? ";" : " ; ", lines));
    }

    private String personLine(int things) {
        StringBuilder s = new StringBuilder("person " + upTo(flip() ? 9 : 4) + " " + upTo(flip() ? 9 : 4));
        s.append(" ear ").append(upTo(3)).append(" stammer ").append(flip() ? 0 : upTo(100));
        if (flip()) {
            s.append(" knows");
            for (int k = upTo(3); k >= 0; k--) {
                s.append(' ').append(upTo(things - 1));
            }
        }
        return s.toString();
    }

    private String lawText() {
        List<String> lines = new ArrayList<>();
        int n = rarely() ? 13 : upTo(4);
        for (int k = 0; k < n; k++) {
            String line = List.of("far ", "near ", "as ").get(upTo(2)) + upTo(rarely() ? 120 : 3);
            lines.add(flip() ? line : line + " if " + condition(0));
        }
        return spoilt(String.join(";", lines));
    }

    private String condition(int depth) {
        StringBuilder s = new StringBuilder(atom(depth));
        for (int k = upTo(2); k > 0; k--) {
            s.append(flip() ? " and " : " or ").append(atom(depth));
        }
        return s.toString();
    }

    private String atom(int depth) {
        int kind = random.nextInt(8);
        if (depth < 8 && kind < 2) {
            return "not " + atom(depth + 1);
        }
        if (depth < 8 && kind < 4) {
            return "(" + condition(depth + 1) + ")";
        }
        return kind == 4 ? "known" : sum() + (flip() ? "<" : " > ") + sum();
    }

    private String sum() {
        StringBuilder s = new StringBuilder(part());
        for (int k = upTo(3) - 1; k > 0; k--) {
            s.append(flip() ? "+" : " + ").append(part());
        }
        return s.toString();
    }

    private String part() {
        List<String> words = List.of("thing", "wording", "who", "whom", "apart", "ear", "day");
        int kind = random.nextInt(10);
        return kind < 7 ? words.get(kind) : String.valueOf(upTo(rarely() ? 1200 : 6));
    }

    /** Now and then a byte is put in, taken out or made another one. */
    private String spoilt(String text) {
        StringBuilder s = new StringBuilder(text.length() > 400 ? text.substring(0, 400) : text);
        if (random.nextInt(3) != 0 || s.length() == 0) {
            return s.toString();
        }
        int at = upTo(s.length() - 1);
        String signs = " ;()<>+09az\u00ff\u0000";
        char sign = signs.charAt(upTo(signs.length() - 1));
        switch (random.nextInt(4)) {
            case 0 -> s.setCharAt(at, sign);
            case 1 -> s.deleteCharAt(at);
            case 2 -> s.setLength(at);
            default -> {
                if (s.length() < 400) {
                    s.insert(at, sign);
                }
            }
        }
        return s.toString();
    }

    private void fill(int... bytes) {
        m.end(0);
        int[] five = new int[5];
        Check.tape(x, bytes);
        for (int at = 0; at < bytes.length; at += 20) {
            for (int k = 0; k < 20; k++) {
                five[k / 4] = five[k / 4] << 8 | (at + k < bytes.length ? bytes[at + k] & 255 : 0);
            }
            m.feed(five[0], five[1], five[2], five[3], five[4]);
        }
        m.end(bytes.length);
        calls += bytes.length / 20 + 2;
    }

    private void text(boolean school, String text) {
        fill(text.chars().toArray());
        if (school) {
            same("school() of " + text, x::school, m::school);
        } else {
            same("law() of " + text, x::law, m::law);
        }
        same("fault()", x::fault, m::fault);
    }

    private void toldTape() {
        int people = m.count(1);
        int things = m.count(0);
        int who = upTo(people);
        int[] told = new int[rarely() ? upTo(11) : people];
        int thing = upTo(things);
        int wording = upTo(2);
        for (int p = 0; p < told.length; p++) {
            int as = -1;
            try {
                as = m.hears(who, thing, wording, p);
            } catch (RuntimeException e) {
                as = -1;
            }
            told[p] = rarely() ? upTo(things) : as & 255;
        }
        fill(told);
        same("what(" + who + ") of " + java.util.Arrays.toString(told), () -> x.what(who), () -> m.what(who));
    }

    private int aPerson() {
        return rarely() ? upTo(12) - 1 : upTo(Math.max(0, m.count(1) - 1));
    }

    private int aThing() {
        return rarely() ? upTo(12) - 1 : upTo(Math.max(0, m.count(0) - 1));
    }

    private void question() {
        int p = aPerson();
        int q = aPerson();
        int t = aThing();
        int w = rarely() ? upTo(8) - 1 : upTo(2);
        int n = rarely() ? upTo(60) - 10 : upTo(10);
        boolean b = flip();
        String pq = "(" + p + ", " + q + ")";
        String pt = "(" + p + ", " + t + ")";
        String ptw = "(" + p + ", " + t + ", " + w + ")";
        String ptwb = "(" + p + ", " + t + ", " + w + ", " + b + ")";
        switch (random.nextInt(56)) {
            case 0 -> same("feed", () -> x.feed(p, q, n, w, t), () -> m.feed(p, q, n, w, t));
            case 1 -> same("end " + n, () -> x.end(n), () -> m.end(n));
            case 2 -> same("thing" + pq, () -> x.thing(t, w), () -> m.thing(t, w));
            case 3 -> same("thing(" + t + ", 3)", () -> x.thing(t, 3), () -> m.thing(t, 3));
            case 4 -> same("person(" + p + ", " + n + ")", () -> x.person(p, n), () -> m.person(p, n));
            case 5 -> same("rule" + pt, () -> x.rule(p, t), () -> m.rule(p, t));
            case 6 -> same("store()", x::store, m::store);
            case 7 -> same("apart" + pq, () -> x.apart(p, q), () -> m.apart(p, q));
            case 8 -> same("hears" + ptw + q, () -> x.hears(p, t, w, q), () -> m.hears(p, t, w, q));
            case 9 -> same("audience" + ptwb, () -> x.audience(p, t, w, b), () -> m.audience(p, t, w, b));
            case 10, 11, 12, 13, 14, 15 -> same("say" + ptw, () -> x.say(p, t, w), () -> m.say(p, t, w));
            case 16 -> same("think(" + p + ")", () -> x.think(p), () -> m.think(p));
            case 17 -> same("away" + p + b, () -> x.away(p, b), () -> m.away(p, b));
            case 18 -> same("change" + pq, () -> x.change(p, q), () -> m.change(p, q));
            case 19 -> same("day()", x::day, m::day);
            case 20 -> same("term(" + n + ")", () -> x.term(n), () -> m.term(n));
            case 21 -> same("sayable()", x::sayable, m::sayable);
            case 22 -> same("dumb()", x::dumb, m::dumb);
            case 23 -> same("silent()", x::silent, m::silent);
            case 24 -> same("plan" + t + b, () -> x.plan(t, b), () -> m.plan(t, b));
            case 25 -> same("kept" + pt, () -> x.kept(p, t), () -> m.kept(p, t));
            case 26 -> same("seats" + ptwb, () -> x.seats(p, t, w, b), () -> m.seats(p, t, w, b));
            case 27 -> same("what(" + p + ")", () -> x.what(p), () -> m.what(p));
            case 28 -> same("exam()", x::exam, m::exam);
            case 29 -> same("last()", x::last, m::last);
            case 30 -> same("alike" + pq, () -> x.alike(p, q), () -> m.alike(p, q));
            case 31 -> same("ask" + pq, () -> x.ask(p, q), () -> m.ask(p, q));
            case 32 -> same("groups " + b, () -> x.groups(b), () -> m.groups(b));
            case 33 -> same("keeps" + pq, () -> x.keeps(p, q), () -> m.keeps(p, q));
            case 34 -> same("margin" + pq, () -> x.margin(p, q), () -> m.margin(p, q));
            case 35 -> same("call" + t + b, () -> x.call(t, b), () -> m.call(t, b));
            case 36 -> same("trial(" + n + ", " + t + ")", () -> x.trial(n, t), () -> m.trial(n, t));
            case 37 -> same("trial(" + n + ", -1)", () -> x.trial(n, -1), () -> m.trial(n, -1));
            case 38 -> same("span" + n + b, () -> x.span(n, b), () -> m.span(n, b));
            case 39 -> same("how" + pt, () -> x.how(p, t), () -> m.how(p, t));
            case 40 -> same("teacher()", x::teacher, m::teacher);
            case 41, 42 -> same("chain" + pt + b, () -> x.chain(p, t, b), () -> m.chain(p, t, b));
            case 43 -> same("spot" + pq + t + w, () -> x.spot(p, q, t, w), () -> m.spot(p, q, t, w));
            case 44 -> same("speakers(" + t + ")", () -> x.speakers(t), () -> m.speakers(t));
            case 45 -> same("between" + pq, () -> x.between(p, q), () -> m.between(p, q));
            case 46 -> same("echo" + ptwb, () -> x.echo(p, t, w, b), () -> m.echo(p, t, w, b));
            case 47 -> same("learnt(" + n + ", " + p + ")", () -> x.learnt(n, p), () -> m.learnt(n, p));
            case 48 -> same("log(" + n + ", " + w + ")", () -> x.log(n, w), () -> m.log(n, w));
            case 49 -> {
                int seed = rarely() ? random.nextInt() : upTo(5);
                same("seed(" + seed + ")", () -> x.seed(seed), () -> m.seed(seed));
            }
            case 50 -> same("undo()", x::undo, m::undo);
            case 51 -> {
                if (random.nextInt(4) == 0) {
                    x.image();
                    m.image();
                    done.add("image()");
                } else {
                    same("plan" + t + b, () -> x.plan(t, b), () -> m.plan(t, b));
                }
            }
            case 52 -> {
                if (random.nextInt(6) == 0) {
                    same("back()", x::back, m::back);
                } else {
                    same("undo()", x::undo, m::undo);
                }
            }
            case 53 -> {
                int big = random.nextInt();
                same("hears big", () -> x.hears(big, t, w, q), () -> m.hears(big, t, w, q));
                same("learnt big", () -> x.learnt(big, p), () -> m.learnt(big, p));
                same("log big", () -> x.log(big, w), () -> m.log(big, w));
                same("rule big", () -> x.rule(big, w), () -> m.rule(big, w));
                same("count big", () -> x.count(big), () -> m.count(big));
                same("end big", () -> x.end(big | 1 << 30), () -> m.end(big | 1 << 30));
            }
            default -> same("count(" + n + ")", () -> x.count(n), () -> m.count(n));
        }
    }
}
