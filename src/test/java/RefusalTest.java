import java.lang.reflect.InvocationTargetException;
import java.lang.reflect.Method;
import java.lang.reflect.Modifier;
import java.util.ArrayList;
import java.util.Arrays;
import java.util.List;
import java.util.NoSuchElementException;
import java.util.concurrent.Callable;

/** The last words of the document's terms: which of several exceptions is thrown, and what a call that throws changes. */
public final class RefusalTest {
    private static final Check CHECK = new Check("RefusalTest");
    private static final Class<? extends Exception> INDEX = IndexOutOfBoundsException.class;
    private static final Class<? extends Exception> ARGUMENT = IllegalArgumentException.class;
    private static final Class<? extends Exception> STATE = IllegalStateException.class;
    private static final Class<? extends Exception> ELEMENT = NoSuchElementException.class;
    private static final String TEXT = "thing 2;thing 1;person 0 0 ear 1 stammer 0 knows 0;person 1 0 ear 1 stammer 0;"
            + "person 3 0 ear 0 stammer 50 knows 1;follow 0 0 1;loud 1";
    private static final int[] WRONG_PEOPLE = {-1, 3, 10, Integer.MIN_VALUE, Integer.MAX_VALUE};
    private static final int[] WRONG_THINGS = {-1, 2, 10, Integer.MIN_VALUE, Integer.MAX_VALUE};

    public static void main(String[] args) throws Exception {
        refusedPeople();
        refusedThings();
        refusedSayings();
        bothAreOne();
        refusedNumbers();
        refusedStates();
        refusedTapes();
        toldFirst();
        extremes();
        fullSchool();
        CHECK.finish();
    }

    private interface Call {
        Object of(SaidOnce x) throws Exception;
    }

    /** A school in which everything has come about, with an image and a fault, and three bytes on the tape. */
    private static SaidOnce rich() {
        SaidOnce x = new SaidOnce();
        x.seed(5);
        x.image();
        Check.school(x, TEXT);
        Check.law(x, "as 1 if known and wording > 0");
        Check.schoolFault(x, "loud 10");
        x.say(0, 0, 1);
        x.away(2, true);
        x.day();
        Check.tape(x, 255, 7, 0);
        return x;
    }

    private static void refused(String call, Class<? extends Exception> due, Call body) {
        refused(call, due, 3, 5, body);
    }

    private static void refused(String call, Class<? extends Exception> due, int tapeThen, int faultThen, Call body) {
        CHECK.sentence("a call that throws changes nothing but the TAPE, where it is used up, and fault(), where a text is read");
        SaidOnce x = rich();
        String was = Check.digest(x);
        CHECK.thrown(call, due, () -> body.of(x));
        CHECK.same("what is left behind " + call, Check.digest(x), was);
        CHECK.due("tape behind " + call, Check.tapeHas(x, tapeThen), true);
        CHECK.due("fault behind " + call, x.fault(), faultThen);
        CHECK.due("acts behind " + call, x.undo() && x.count(9) == 4 && x.undo() && x.undo() && !x.undo(), true);
        CHECK.due("image behind " + call, x.back() && x.count(0) == 0 && x.seed(0) == 5, true);
    }

    private static void refusedPeople() {
        for (int p : WRONG_PEOPLE) {
            refused("person", INDEX, x -> x.person(p, 0));
            refused("apart", INDEX, x -> x.apart(p, 0));
            refused("apart", INDEX, x -> x.apart(0, p));
            refused("hears", INDEX, x -> x.hears(p, 0, 0, 0));
            refused("hears", INDEX, x -> x.hears(0, 0, 0, p));
            refused("audience", INDEX, x -> x.audience(p, 0, 0, true));
            refused("say", INDEX, x -> x.say(p, 0, 0));
            refused("think", INDEX, x -> x.think(p));
            refused("away", INDEX, x -> x.away(p, true));
            refused("change", INDEX, x -> x.change(p, 0));
            refused("change", INDEX, x -> x.change(0, p));
            refused("kept", INDEX, x -> x.kept(p, 0));
            refused("seats", INDEX, x -> x.seats(p, 0, 0, true));
            refused("alike", INDEX, x -> x.alike(p, 0));
            refused("alike", INDEX, x -> x.alike(0, p));
            refused("ask", INDEX, x -> x.ask(p, 0));
            refused("ask", INDEX, x -> x.ask(0, p));
            refused("keeps", INDEX, x -> x.keeps(p, 0));
            refused("keeps", INDEX, x -> x.keeps(0, p));
            refused("margin", INDEX, x -> x.margin(p, 0));
            refused("margin", INDEX, x -> x.margin(0, p));
            refused("how", INDEX, x -> x.how(p, 0));
            refused("chain", INDEX, x -> x.chain(p, 0, true));
            refused("spot", INDEX, x -> x.spot(p, 0, 0, 0));
            refused("spot", INDEX, x -> x.spot(0, p, 0, 0));
            refused("between", INDEX, x -> x.between(p, 0));
            refused("between", INDEX, x -> x.between(0, p));
            refused("echo", INDEX, x -> x.echo(p, 0, 0, true));
            refused("learnt", INDEX, x -> x.learnt(0, p));
            refused("what", INDEX, 0, 5, x -> x.what(p));
        }
    }

    private static void refusedThings() {
        for (int t : WRONG_THINGS) {
            refused("thing", INDEX, x -> x.thing(t, 0));
            refused("hears", INDEX, x -> x.hears(0, t, 0, 1));
            refused("audience", INDEX, x -> x.audience(0, t, 0, true));
            refused("say", INDEX, x -> x.say(0, t, 0));
            refused("plan", INDEX, x -> x.plan(t, true));
            refused("kept", INDEX, x -> x.kept(0, t));
            refused("seats", INDEX, x -> x.seats(0, t, 0, true));
            refused("call", INDEX, x -> x.call(t, true));
            refused("how", INDEX, x -> x.how(0, t));
            refused("chain", INDEX, x -> x.chain(0, t, true));
            refused("spot", INDEX, x -> x.spot(0, 1, t, 0));
            refused("speakers", INDEX, x -> x.speakers(t));
            refused("echo", INDEX, x -> x.echo(0, t, 0, true));
            if (t != -1) {
                refused("trial", INDEX, x -> x.trial(1, t));
            }
        }
    }

    private static void refusedSayings() {
        for (int w : new int[] {-1, 1, 2, 6, Integer.MIN_VALUE, Integer.MAX_VALUE}) {
            refused("hears", INDEX, x -> x.hears(0, 1, w, 1));
            refused("audience", INDEX, x -> x.audience(0, 1, w, true));
            refused("say", INDEX, x -> x.say(0, 1, w));
            refused("seats", INDEX, x -> x.seats(0, 1, w, true));
            refused("spot", INDEX, x -> x.spot(0, 1, 1, w));
            refused("echo", INDEX, x -> x.echo(0, 1, w, true));
        }
    }

    private static void bothAreOne() {
        for (int p = 0; p < 3; p++) {
            int one = p;
            refused("apart", ARGUMENT, x -> x.apart(one, one));
            refused("hears", ARGUMENT, x -> x.hears(one, 0, 0, one));
            refused("change", ARGUMENT, x -> x.change(one, one));
            refused("alike", ARGUMENT, x -> x.alike(one, one));
            refused("ask", ARGUMENT, x -> x.ask(one, one));
            refused("keeps", ARGUMENT, x -> x.keeps(one, one));
            refused("margin", ARGUMENT, x -> x.margin(one, one));
            refused("spot", ARGUMENT, x -> x.spot(one, one, 0, 0));
            refused("between", ARGUMENT, x -> x.between(one, one));
        }
    }

    private static void refusedNumbers() {
        for (int n : new int[] {-1, 41, Integer.MIN_VALUE, Integer.MAX_VALUE}) {
            refused("term", ARGUMENT, x -> x.term(n));
            refused("trial", ARGUMENT, x -> x.trial(n, -1));
            refused("trial", ARGUMENT, x -> x.trial(n, 1));
            refused("span", ARGUMENT, x -> x.span(n, false));
        }
        for (int what : new int[] {-1, 8, Integer.MIN_VALUE, Integer.MAX_VALUE}) {
            refused("thing", ELEMENT, x -> x.thing(0, what));
            refused("person", ELEMENT, x -> x.person(0, what));
            refused("rule", ELEMENT, x -> x.rule(0, what));
            refused("log", ELEMENT, x -> x.log(0, what));
        }
    }

    private static void refusedStates() {
        refused("said before", STATE, x -> x.say(0, 0, 1));
        refused("not known", STATE, x -> x.say(0, 1, 0));
        CHECK.sentence("IllegalStateException: it cannot be");
        SaidOnce x = rich();
        x.away(0, true);
        String was = Check.digest(x);
        CHECK.thrown("absent", STATE, () -> x.say(0, 0, 0));
        CHECK.same("nothing changes", Check.digest(x), was);
    }

    private static void refusedTapes() {
        refused("school", ARGUMENT, 0, 0, x -> x.school());
        refused("law", ARGUMENT, 0, 0, x -> x.law());
        refused("what", ARGUMENT, 0, 5, x -> x.what(0));
        refused("a wrong end of a school", ARGUMENT, 0, 5, x -> Check.school(x, "loud "));
        refused("a wrong end of a law", ARGUMENT, 0, 4, x -> Check.law(x, "far "));
    }

    private static void toldFirst() {
        CHECK.sentence("Of several exceptions the one told first is thrown");
        SaidOnce x = rich();
        CHECK.thrown("thing", INDEX, () -> x.thing(2, 4));
        CHECK.thrown("person", INDEX, () -> x.person(3, 8));
        CHECK.thrown("apart", INDEX, () -> x.apart(3, 3));
        CHECK.thrown("hears of one", INDEX, () -> x.hears(0, 2, 0, 0));
        CHECK.thrown("hears of one", INDEX, () -> x.hears(0, 1, 1, 0));
        CHECK.thrown("hears", INDEX, () -> x.hears(3, 0, 0, 3));
        CHECK.thrown("say", INDEX, () -> x.say(0, 0, 2));
        CHECK.thrown("say", INDEX, () -> x.say(0, 1, 1));
        CHECK.thrown("say", INDEX, () -> x.say(3, 0, 1));
        CHECK.thrown("change", INDEX, () -> x.change(-1, -1));
        CHECK.thrown("what", INDEX, () -> x.what(3));
        CHECK.thrown("alike", INDEX, () -> x.alike(3, 3));
        CHECK.thrown("ask", INDEX, () -> x.ask(3, 3));
        CHECK.thrown("keeps", INDEX, () -> x.keeps(3, 3));
        CHECK.thrown("margin", INDEX, () -> x.margin(3, 3));
        CHECK.thrown("trial", INDEX, () -> x.trial(41, 2));
        CHECK.thrown("spot", INDEX, () -> x.spot(0, 0, 2, 0));
        CHECK.thrown("spot", INDEX, () -> x.spot(3, 3, 0, 0));
        CHECK.thrown("spot", INDEX, () -> x.spot(0, 0, 0, 2));
        CHECK.thrown("between", INDEX, () -> x.between(3, 3));
        for (int k = x.count(3); k < 12; k++) {
            Check.school(x, "");
        }
        Check.tape(x, "bell");
        CHECK.thrown("school", ARGUMENT, x::school);
    }

    // Every call with every mix of numbers at the edges, held against the model.

    private static final int[] EDGES = {Integer.MIN_VALUE, -2, -1, 0, 1, 2, 3, 9, 10, 40, 41, Integer.MAX_VALUE};
    private static final int[] FEWER_EDGES = {-1, 0, 1, 2, 3, Integer.MAX_VALUE};

    private static void extremes() throws Exception {
        CHECK.sentence("throws what the document's face says, and nothing else, for any numbers");
        String[][] schools = {{}, {"thing 1"}, {"person 0 0 ear 0 stammer 0"}, {TEXT}, {TEXT,
                "said 0 0;said 0 1;said 1 0;absent 0"},
            {Check.lines(10, "thing 6"),
            "person 9 9 ear 9 stammer 100 knows 0 9;person 0 0 ear 0 stammer 0;person 9 0 ear 9 stammer 0"}};
        for (String[] school : schools) {
            for (Method one : SaidOnce.class.getDeclaredMethods()) {
                if (Modifier.isPublic(one.getModifiers())) {
                    edgesOf(one, school);
                }
            }
        }
    }

    /** Each number goes through the edges, or through fewer ones, if there are many numbers. */
    private static List<Object[]> mixes(Class<?>[] types, int[] some, int[] fewer) {
        List<Object[]> all = new ArrayList<>();
        all.add(new Object[types.length]);
        for (int k = 0; k < types.length; k++) {
            List<Object[]> longer = new ArrayList<>();
            for (Object[] mix : all) {
                int[] edges = types.length > 3 && k != 1 ? fewer : some;
                for (int e = 0; e < (types[k] == boolean.class ? 2 : edges.length); e++) {
                    Object[] more = mix.clone();
                    more[k] = types[k] == boolean.class ? (Object) (e == 1) : Integer.valueOf(edges[e]);
                    longer.add(more);
                }
            }
            all = longer;
        }
        return all;
    }

    /** All is as many as it can be: no row of numbers is gone beyond. */
    private static SaidOnce full(int kind) {
        SaidOnce x = Check.made(Check.lines(10, "thing 6"), Check.lines(12, "follow 9 8 7"));
        for (int k = 0; k < 10; k++) {
            Check.school(x, "person 9 " + k + " ear 9 stammer " + 10 * k + (kind == 0 ? ""
                    : " knows 0 1 2 3 4 5 6 7 8 9".substring(0, 26 - 2 * k)));
        }
        Check.law(x, "as 9 if known;as 1 if who > 5;" + Check.lines(10, kind == 2 ? "far 99" : "near 1"));
        x.seed(kind);
        x.term(20 * kind);
        x.image();
        return x;
    }

    private static void fullSchool() throws Exception {
        CHECK.sentence("A call of the face throws exactly what and where the document says, and nothing else");
        int[] some = {Integer.MIN_VALUE, -1, 0, 1, 2, 3, 4, 5, 6, 7, 8, 9, 10, 40, 59, 60, 61, Integer.MAX_VALUE};
        int[] fewer = {-1, 0, 1, 5, 6, 9, 10};
        for (Method one : SaidOnce.class.getDeclaredMethods()) {
            for (int kind = 0; kind < 3 && Modifier.isPublic(one.getModifiers()); kind++) {
                List<String> allowed = new ArrayList<>();
                for (Class<?> thrown : one.getExceptionTypes()) {
                    allowed.add(thrown.getName());
                }
                SaidOnce x = full(kind);
                int calls = 0;
                for (Object[] mix : mixes(one.getParameterTypes(), one.getParameterCount() == 5 ? fewer : some, fewer)) {
                    calls++;
                    SaidOnce object = calls % 300 == 0 ? full(kind) : x;
                    x = object;
                    String got = Check.outcome(unwrapped(() -> one.invoke(object, mix)));
                    CHECK.due(one.getName() + Arrays.toString(mix) + " throws " + got, !got.contains("xception")
                            || allowed.contains(got), true);
                }
            }
        }
    }

    private static void edgesOf(Method ours, String[] school) throws Exception {
        Method theirs = Model.class.getDeclaredMethod(ours.getName(), ours.getParameterTypes());
        List<String> allowed = new ArrayList<>();
        for (Class<?> one : ours.getExceptionTypes()) {
            allowed.add(one.getName());
        }
        SaidOnce x = null;
        Model m = null;
        int calls = 512;
        for (Object[] mix : mixes(ours.getParameterTypes(), EDGES, FEWER_EDGES)) {
            if (calls > 250) {
                x = new SaidOnce();
                m = new Model();
                for (String text : school) {
                    tell(x, m, text);
                }
                calls = 0;
            }
            SaidOnce ourObject = x;
            Model theirObject = m;
            calls++;
            String got = Check.outcome(unwrapped(() -> ours.invoke(ourObject, mix)));
            String due = Check.outcome(unwrapped(() -> theirs.invoke(theirObject, mix)));
            String call = ours.getName() + Arrays.toString(mix) + " of " + Arrays.toString(school);
            CHECK.same(call, got, due);
            CHECK.due(call + " throws " + got, !got.contains("Exception") || allowed.contains(got), true);
        }
    }

    private static Callable<Object> unwrapped(Callable<Object> body) {
        return () -> {
            try {
                return body.call();
            } catch (InvocationTargetException e) {
                throw (Exception) e.getCause();
            }
        };
    }

    private static void tell(SaidOnce x, Model m, String text) {
        Check.tape(x, text);
        for (int at = 0; at < text.length(); at += 20) {
            int[] five = new int[5];
            for (int k = 0; k < 20; k++) {
                five[k / 4] = five[k / 4] << 8 | (at + k < text.length() ? text.charAt(at + k) : 0);
            }
            m.feed(five[0], five[1], five[2], five[3], five[4]);
        }
        m.end(text.length());
        CHECK.due("told", x.school(), m.school());
    }
}
