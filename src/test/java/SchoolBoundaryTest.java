import java.util.NoSuchElementException;

/** Promises 7 to 13, 20 to 22, 27, 29 to 31, 42, 43 and 50: a test for each sentence that names a boundary case there. */
public final class SchoolBoundaryTest {
    private static final Check CHECK = new Check("SchoolBoundaryTest");
    private static final Class<? extends Exception> INDEX = IndexOutOfBoundsException.class;
    private static final Class<? extends Exception> ARGUMENT = IllegalArgumentException.class;
    private static final Class<? extends Exception> ELEMENT = NoSuchElementException.class;
    private static final String BEHIND = " ear 0 stammer 0";

    public static void main(String[] args) {
        thingsFromNoughtOn();
        wordingsOfThatThing();
        peopleFromNoughtOn();
        sayingsByNumber();
        distanceIsTheGreater();
        distanceOfTwo();
        reachAtMost();
        reachByTheLaw();
        reachBelowNought();
        earOfTheOther();
        neitherIsAbsent();
        takenGoingRound();
        takenByAllLines();
        lessAndMore();
        sumsOfNumbers();
        joints();
        deepConditions();
        knownByTheOther();
        lawWithoutIf();
        thingWhat();
        left();
        whoKnows();
        sourcesNone();
        sourcesFewest();
        personWhat();
        followsTillNothingMore();
        lost();
        ruleWhat();
        hearsNobodyMustKnow();
        audienceOfNone();
        sayable();
        dumb();
        silent();
        exam();
        alike();
        ask();
        groups();
        between();
        echo();
        countWhat();
        setsOfNone();
        CHECK.finish();
    }

    /** Ten things of six wordings, and ten people in a row. */
    private static SaidOnce full(String behind) {
        SaidOnce x = Check.made(Check.lines(10, "thing 6"));
        for (int k = 0; k < 10; k++) {
            Check.school(x, "person " + k + " 0" + behind);
        }
        return x;
    }

    // Terms.

    private static void thingsFromNoughtOn() {
        CHECK.sentence("THINGS (at most 10, numbered from 0 on)");
        SaidOnce x = full(BEHIND);
        CHECK.due("the first", x.thing(0, 0), 6);
        CHECK.due("the last", x.thing(9, 0), 6);
        for (int t : new int[] {-1, 10, Integer.MIN_VALUE, Integer.MAX_VALUE}) {
            CHECK.thrown("thing " + t, INDEX, () -> x.thing(t, 0));
            CHECK.thrown("plan " + t, INDEX, () -> x.plan(t, false));
            CHECK.thrown("kept " + t, INDEX, () -> x.kept(0, t));
            CHECK.thrown("call " + t, INDEX, () -> x.call(t, false));
            CHECK.thrown("how " + t, INDEX, () -> x.how(0, t));
            CHECK.thrown("speakers " + t, INDEX, () -> x.speakers(t));
            CHECK.thrown("audience " + t, INDEX, () -> x.audience(0, t, 0, false));
        }
    }

    private static void wordingsOfThatThing() {
        CHECK.sentence("each in WORDINGS (1 to 6, numbered from 0 on); there is no such WORDING (of that THING)");
        SaidOnce x = Check.made("thing 1;thing 6;thing 3;person 0 0" + BEHIND + " knows 0 1 2;person 1 0" + BEHIND);
        int[] wordings = {1, 6, 3};
        for (int thing = 0; thing < 3; thing++) {
            int t = thing;
            int none = wordings[t];
            CHECK.due("the last", x.hears(0, t, none - 1, 1), t);
            CHECK.due("the first", x.hears(0, t, 0, 1), t);
            for (int w : new int[] {-1, none, 7, Integer.MIN_VALUE, Integer.MAX_VALUE}) {
                CHECK.thrown("hears", INDEX, () -> x.hears(0, t, w, 1));
                CHECK.thrown("audience", INDEX, () -> x.audience(0, t, w, true));
                CHECK.thrown("say", INDEX, () -> x.say(0, t, w));
                CHECK.thrown("seats", INDEX, () -> x.seats(0, t, w, true));
                CHECK.thrown("spot", INDEX, () -> x.spot(1, 0, t, w));
                CHECK.thrown("echo", INDEX, () -> x.echo(0, t, w, true));
            }
            CHECK.due("the last is said", x.say(0, t, none - 1), 2);
        }
    }

    private static void peopleFromNoughtOn() {
        CHECK.sentence("PEOPLE (at most 10, numbered from 0 on)");
        SaidOnce x = full(BEHIND);
        CHECK.due("the first", x.person(0, 0), 0);
        CHECK.due("the last", x.person(9, 0), 9);
        for (int p : new int[] {-1, 10, Integer.MIN_VALUE, Integer.MAX_VALUE}) {
            CHECK.thrown("person " + p, INDEX, () -> x.person(p, 0));
            CHECK.thrown("apart " + p, INDEX, () -> x.apart(p, 0));
            CHECK.thrown("apart from " + p, INDEX, () -> x.apart(0, p));
            CHECK.thrown("think " + p, INDEX, () -> x.think(p));
            CHECK.thrown("away " + p, INDEX, () -> x.away(p, true));
            CHECK.thrown("what " + p, INDEX, () -> x.what(p));
            CHECK.thrown("learnt " + p, INDEX, () -> x.learnt(0, p));
        }
    }

    private static void sayingsByNumber() {
        CHECK.sentence("its number: 6 times THING and WORDING (0 to 59); THE STORE, as bits of a long");
        SaidOnce x = full(BEHIND + " knows 0 1 2 3 4 5 6 7 8 9");
        CHECK.due("the least", x.say(0, 0, 0), 0);
        CHECK.due("as a bit", x.store(), 1);
        CHECK.due("in the log", x.log(0, 2), 0);
        CHECK.due("the greatest", x.say(9, 9, 5), 0);
        CHECK.due("as a bit", x.store(), 1L | 1L << 59);
        CHECK.due("in the log", x.log(0, 2), 59);
        x.say(0, 5, 1);
        CHECK.due("number 31", x.store(), 1L | 1L << 31 | 1L << 59);
        x.say(0, 5, 2);
        CHECK.due("number 32", x.store(), 1L | 3L << 31 | 1L << 59);
    }

    private static void distanceIsTheGreater() {
        CHECK.sentence("DISTANCE of two: the greater of what their X and their Y are apart");
        SaidOnce x = Check.made("person 0 0" + BEHIND + ";person 9 9" + BEHIND + ";person 0 9" + BEHIND + ";person 9 8"
                + BEHIND
                + ";person 3 5" + BEHIND + ";person 3 6" + BEHIND + ";person 5 3" + BEHIND);
        int[][] due = {{0, 1, 9}, {0, 2, 9}, {2, 3, 9}, {1, 3, 1}, {4, 5, 1}, {4, 6, 2}, {5, 6, 3}, {0, 4, 5}, {0, 6, 5},
            {1, 4, 6}};
        for (int[] one : due) {
            CHECK.due("apart " + one[0] + " " + one[1], x.apart(one[0], one[1]), one[2]);
            CHECK.due("apart " + one[1] + " " + one[0], x.apart(one[1], one[0]), one[2]);
        }
    }

    private static void distanceOfTwo() {
        CHECK.sentence("Promise 11: IllegalArgumentException: both are one");
        SaidOnce x = full(BEHIND);
        for (int p = 0; p < 10; p++) {
            int one = p;
            CHECK.thrown("apart", ARGUMENT, () -> x.apart(one, one));
            CHECK.thrown("hears", ARGUMENT, () -> x.hears(one, 0, 0, one));
            CHECK.thrown("alike", ARGUMENT, () -> x.alike(one, one));
            CHECK.thrown("between", ARGUMENT, () -> x.between(one, one));
        }
    }

    private static void reachAtMost() {
        CHECK.sentence("REACH: EAR and LOUD ..; HEARS: .. DISTANCE is REACH at most");
        for (int loud = 0; loud <= 9; loud++) {
            for (int ear = 0; ear <= 9; ear++) {
                SaidOnce x = Check.made("thing 1;loud " + loud);
                for (int k = 0; k < 10; k++) {
                    Check.school(x, "person " + k + " 0 ear " + ear + " stammer 0");
                }
                for (int q = 1; q < 10; q++) {
                    CHECK.due("loud " + loud + ", ear " + ear + ", apart " + q, x.hears(0, 0, 0, q), q <= loud + ear ? 0
                            : -1);
                }
            }
        }
    }

    private static void reachByTheLaw() {
        CHECK.sentence("REACH: .. and the sum of N of all far LINES that hold, less that of all near LINES");
        SaidOnce x = full(BEHIND);
        String[] laws = {"far 0", "far 1", "far 3;near 3", "far 99;near 98", "near 1;far 1;far 1", "far 7", "far 6",
                "near 1",
            "near 0", "far 4;far 3 if 1 < 1", "near 9 if 2 < 1", Check.lines(12, "far 99"), "as 99"};
        int[] reach = {2, 3, 2, 3, 3, 9, 8, 1, 2, 6, 2, 9, 2};
        for (int k = 0; k < laws.length; k++) {
            Check.law(x, laws[k]);
            CHECK.due("who hears by " + laws[k], x.audience(0, 0, 0, false), (1 << reach[k] + 1) - 2);
        }
    }

    private static void reachBelowNought() {
        CHECK.sentence("less that of all near LINES");
        SaidOnce x = full(BEHIND);
        for (String law : new String[] {"near 2", "near 3", "near 99", Check.lines(12, "near 99"), "near 9;far 5"}) {
            Check.law(x, law);
            for (int p = 0; p < 10; p++) {
                CHECK.due("nobody hears " + p + " by " + law, x.audience(p, 0, 0, false), 0);
            }
        }
        Check.law(x, "near 9;far 8");
        CHECK.due("as near as one can be", x.audience(4, 0, 0, false), 1 << 3 | 1 << 5);
    }

    private static void earOfTheOther() {
        CHECK.sentence("ear: EAR of the other one");
        SaidOnce x = Check.made("thing 1;person 0 0 ear 9 stammer 0;person 9 0 ear 0 stammer 0;loud 0");
        CHECK.due("by the ear of who hears", x.hears(1, 0, 0, 0), 0);
        CHECK.due("not of who speaks", x.hears(0, 0, 0, 1), -1);
        Check.law(x, "far 9 if ear < 1");
        CHECK.due("in the law too", x.hears(0, 0, 0, 1), 0);
        Check.law(x, "far 9 if ear > 8");
        CHECK.due("in the law too", x.hears(0, 0, 0, 1), -1);
    }

    private static void neitherIsAbsent() {
        CHECK.sentence("HEARS: neither is ABSENT");
        SaidOnce x = full(BEHIND);
        Check.law(x, "far 99");
        x.away(9, true);
        CHECK.due("not who is absent", x.audience(0, 0, 0, false), 0b0111111110);
        CHECK.due("nor of one", x.audience(9, 0, 0, false), 0);
        CHECK.due("hears", x.hears(0, 0, 0, 9), -1);
        CHECK.due("is heard", x.hears(9, 0, 0, 0), -1);
        x.away(0, true);
        CHECK.due("both", x.hears(9, 0, 0, 0), -1);
        x.day();
        CHECK.due("all are back", x.audience(9, 0, 0, false), 0b0111111111);
    }

    private static void takenGoingRound() {
        CHECK.sentence("TAKES it AS: THING and the sum of N of all as LINES that hold, modulo the number of THINGS");
        for (int things = 1; things <= 10; things++) {
            SaidOnce x = Check.made(Check.lines(things, "thing 1"), "person 0 0" + BEHIND + ";person 0 1" + BEHIND);
            for (int n : new int[] {0, 1, things - 1, things, things + 1, 2 * things, 99}) {
                Check.law(x, "as " + n);
                CHECK.due(n + " of " + things, x.hears(0, 0, 0, 1), n % things);
                CHECK.due(n + " of " + things + " from the last", x.hears(0, things - 1, 0, 1), (things - 1 + n) % things);
            }
        }
    }

    private static void takenByAllLines() {
        CHECK.sentence("the sum of N of all as LINES that hold");
        SaidOnce x = full(BEHIND);
        Check.law(x, Check.lines(12, "as 99"));
        CHECK.due("the most", x.hears(0, 0, 0, 1), 8);
        CHECK.due("the most from the last", x.hears(0, 9, 5, 1), 7);
        Check.law(x, "as 3;far 1;as 9 if 2 < 1;as 4;near 1");
        CHECK.due("those that hold", x.hears(0, 0, 0, 1), 7);
        CHECK.due("right for nobody", x.audience(0, 0, 0, true), 0);
        Check.law(x, "as 3;as 7");
        CHECK.due("right all round", x.audience(0, 9, 0, true), 0b110);
    }

    /** Whether the second one of three, at a distance of 4, hears thing 3 in wording 2 by the third one. */
    private static void heardIf(String condition, boolean due) {
        SaidOnce x = Check.made("thing 1;thing 1;thing 1;thing 4;person 8 0 ear 0 stammer 0;person 0 0 ear 3 stammer 0;"
                + "person 4 4 ear 9 stammer 0;loud 0");
        for (int k = 0; k < 6; k++) {
            x.day();
        }
        Check.law(x, "far 1 if " + condition);
        CHECK.due("heard if " + condition, x.hears(2, 3, 2, 1), due ? 3 : -1);
    }

    private static void lessAndMore() {
        CHECK.sentence("SUM < SUM | SUM > SUM; PART: NUMBER | thing | wording | who | whom | apart | ear | day");
        String[] parts = {"thing", "wording", "who", "whom", "apart", "ear", "day"};
        int[] due = {3, 2, 2, 1, 4, 3, 6};
        for (int k = 0; k < parts.length; k++) {
            heardIf(parts[k] + " < " + due[k], false);
            heardIf(parts[k] + " < " + (due[k] + 1), true);
            heardIf(parts[k] + " > " + due[k], false);
            heardIf(parts[k] + " > " + (due[k] - 1), true);
            heardIf(due[k] + " < " + parts[k], false);
            heardIf(due[k] - 1 + " < " + parts[k], true);
            heardIf(due[k] + " > " + parts[k], false);
            heardIf(due[k] + 1 + " > " + parts[k], true);
        }
        heardIf("0 < 0", false);
        heardIf("0 > 0", false);
        heardIf("0 < 1", true);
        heardIf("1 > 0", true);
        heardIf("thing < thing", false);
    }

    private static void sumsOfNumbers() {
        CHECK.sentence("SUM: PART { + PART }; all numbers are of 1 to 3 digits");
        heardIf("999 < 999", false);
        heardIf("998 < 999", true);
        heardIf("999 + 1 > 999", true);
        heardIf("999 + 0 > 999", false);
        heardIf("thing + wording + who + whom + apart + ear + day > 20", true);
        heardIf("thing + wording + who + whom + apart + ear + day > 21", false);
        heardIf("thing + wording + who + whom + apart + ear + day < 22", true);
        heardIf("21 < thing + wording + who + whom + apart + ear + day", false);
        String many = "999" + "+999".repeat(89);
        heardIf(many + ">999", true);
        heardIf("999<" + many, true);
        heardIf("day+day+day+day+day+day+day+day+day+day+day+day<72", false);
        heardIf("day+day+day+day+day+day+day+day+day+day+day+day<73", true);
    }

    /** All of three facts or not, joined in all ways: or is looser than and, not is tighter than both. */
    private static void joints() {
        CHECK.sentence("C: ALL { or ALL }; ALL: ATOM { and ATOM }; ATOM: not ATOM | ( C )");
        for (int bits = 0; bits < 8; bits++) {
            boolean a = (bits & 1) != 0;
            boolean b = (bits & 2) != 0;
            boolean c = (bits & 4) != 0;
            String p = a ? "1<2" : "2<1";
            String q = b ? "1<2" : "2<1";
            String r = c ? "1<2" : "2<1";
            heardIf(p + " or " + q + " and " + r, a || b && c);
            heardIf(p + " and " + q + " or " + r, a && b || c);
            heardIf("(" + p + " or " + q + ") and " + r, (a || b) && c);
            heardIf(p + " and (" + q + " or " + r + ")", a && (b || c));
            heardIf("not " + p + " and " + q + " or " + r, !a && b || c);
            heardIf("not " + p + " or " + q + " and not " + r, !a || b && !c);
            heardIf("not (" + p + " or " + q + ") or " + r, !(a || b) || c);
            heardIf("not (" + p + " and not " + q + ") and not not " + r, !(a && !b) && c);
            heardIf(p + " and not (" + q + " and " + r + ")", a && !(b && c));
            heardIf(p + " and " + q + " and " + r, a && b && c);
            heardIf(p + " or " + q + " or " + r, a || b || c);
            heardIf("not (not (" + p + ") or not (not " + q + ")) and " + r, a && !b && c);
        }
    }

    private static void deepConditions() {
        CHECK.sentence("( and not within one another at most 6 deep");
        for (String fact : new String[] {"1<2", "2<1"}) {
            boolean holds = fact.equals("1<2");
            heardIf("((((((" + fact + "))))))", holds);
            heardIf("not not not not not not " + fact, holds);
            heardIf("not not not not not " + fact, !holds);
            heardIf("not(not(not(" + fact + ")))", !holds);
            heardIf("(not(not(not " + fact + ")))", !holds);
            heardIf("2<1 or(2<1 or(2<1 or(2<1 or(2<1 or(2<1 or(1<2 and " + fact + "))))))", holds);
            heardIf("1<2 and(2<1 or 1<2 and(2<1 or 1<2 and(2<1 or 1<2 and(2<1 or 1<2 and(2<1 or 1<2 and(2<1 or 0+1<1+"
                    + (holds ? 1 : 0)
                    + "))))))", holds);
            heardIf("((((((" + fact + ")and 1<2)and 1<2)and 1<2)and 1<2)and 1<2)and 1<2", holds);
        }
    }

    private static void knownByTheOther() {
        CHECK.sentence("known: that one KNOWS the THING");
        SaidOnce x = Check.made("thing 1;thing 2;person 0 0 ear 0 stammer 0 knows 1;person 0 1 ear 0 stammer 0 knows 0;"
                + "person 0 2 ear 0 stammer 0");
        Check.law(x, "as 1 if known");
        CHECK.due("another thing is known to 1", x.hears(0, 1, 0, 1), 1);
        CHECK.due("the one who speaks knows it", x.hears(0, 1, 0, 2), 1);
        CHECK.due("that thing is known to 1", x.hears(0, 0, 0, 1), 1);
        CHECK.due("the other way round", x.hears(1, 1, 0, 0), 0);
        CHECK.due("not known to 2", x.hears(1, 0, 0, 2), 0);
        x.say(0, 1, 0);
        CHECK.due("known to 1 from then on", x.hears(0, 1, 1, 1), 0);
        x.undo();
        CHECK.due("not any more", x.hears(0, 1, 1, 1), 1);
    }

    private static void lawWithoutIf() {
        CHECK.sentence("far N [ if C ] | near N [ if C ] | as N [ if C ]");
        SaidOnce x = Check.made("thing 1;thing 1;person 0 0" + BEHIND + ";person 0 3" + BEHIND);
        CHECK.due("too far", x.hears(0, 0, 0, 1), -1);
        Check.law(x, "near 5 if 2 < 1;far 1;as 1;as 1 if 2 < 1;far 9 if known");
        CHECK.due("lines without if hold, each for itself", x.hears(0, 0, 0, 1), 1);
        Check.law(x, "far 1 if 1 < 2;near 1");
        CHECK.due("near without if too", x.hears(0, 0, 0, 1), -1);
    }

    // Promises 7 to 10.

    private static void thingWhat() {
        CHECK.sentence("Promise 7: NoSuchElementException: another what");
        SaidOnce x = Check.made("thing 4;thing 1;follow 0 0 1;person 0 0" + BEHIND + " knows 0;said 0 1");
        int[] due = {4, 3, 1, -1};
        for (int what = 0; what < 4; what++) {
            CHECK.due("what " + what, x.thing(0, what), due[what]);
        }
        for (int what : new int[] {-1, 4, 5, Integer.MIN_VALUE, Integer.MAX_VALUE}) {
            CHECK.thrown("what " + what, ELEMENT, () -> x.thing(0, what));
            CHECK.thrown("no thing, what " + what, INDEX, () -> x.thing(2, what));
        }
    }

    private static void left() {
        CHECK.sentence("LEFT of a THING: WORDINGS not in THE STORE");
        SaidOnce x = Check.made("thing 6;thing 1;person 0 0" + BEHIND + " knows 0 1");
        for (int w = 0; w < 6; w++) {
            CHECK.due("left", x.thing(0, 1), 6 - w);
            CHECK.due("all left", x.count(8), 7 - w);
            x.say(0, 0, w);
        }
        CHECK.due("none left", x.thing(0, 1), 0);
        CHECK.due("of the other one all", x.thing(1, 1), 1);
        Check.school(x, "said 1 0");
        CHECK.due("told in a text", x.thing(1, 1), 0);
        CHECK.due("none left at all", x.count(8), 0);
        CHECK.due("wordings stay", x.thing(0, 0), 6);
    }

    private static void whoKnows() {
        CHECK.sentence("Promise 7: who KNOWS it, as bits");
        SaidOnce x = full(BEHIND + " knows 9");
        CHECK.due("all", x.thing(9, 2), 1023);
        CHECK.due("nobody", x.thing(0, 2), 0);
        x.away(9, true);
        CHECK.due("who is absent too", x.thing(9, 2), 1023);
    }

    private static void sourcesNone() {
        CHECK.sentence("SOURCES of a THING: the fewest THINGS (none of them that one) from which it FOLLOWS by RULES: .. none");
        SaidOnce x = Check.made("thing 1;thing 1;thing 1;follow 0 0 0;follow 1 0 1;follow 0 1 1;follow 1 1 2");
        CHECK.due("from itself alone", x.thing(0, 3), -1);
        CHECK.due("itself needed", x.thing(1, 3), -1);
        CHECK.due("from another one", x.thing(2, 3), 2);
        CHECK.due("without rules", Check.made("thing 1;thing 1").thing(1, 3), -1);
        SaidOnce y = Check.made("thing 1;thing 1;thing 1;follow 2 2 0;follow 0 0 1;follow 1 1 0");
        CHECK.due("2 has none", y.thing(2, 3), -1);
        CHECK.due("round about: 1 or 2", y.thing(0, 3), 2);
        CHECK.due("0 or 2", y.thing(1, 3), 1);
    }

    private static void sourcesFewest() {
        CHECK.sentence("SOURCES: the fewest THINGS ..: of several the least as bits");
        SaidOnce x = Check.made(Check.lines(10, "thing 1"),
                "follow 0 1 9;follow 8 8 9;follow 2 3 4;follow 7 6 5;follow 3 2 5");
        CHECK.due("one is fewer than two that are less", x.thing(9, 3), 1 << 8);
        CHECK.due("two", x.thing(4, 3), 1 << 2 | 1 << 3);
        CHECK.due("the least of two pairs", x.thing(5, 3), 1 << 2 | 1 << 3);
        SaidOnce y = Check.made(Check.lines(10, "thing 1"), "follow 9 9 0;follow 8 9 1;follow 0 8 2");
        CHECK.due("the greatest alone", y.thing(0, 3), 1 << 9);
        CHECK.due("the greatest two", y.thing(1, 3), 1 << 8 | 1 << 9);
        CHECK.due("by what follows", y.thing(2, 3), 1 | 1 << 8);
        SaidOnce z = Check.made("thing 1;thing 1;thing 1;thing 1;follow 3 3 2;follow 2 2 1;follow 1 1 0");
        CHECK.due("of three ones the least", z.thing(0, 3), 2);
    }

    private static void personWhat() {
        CHECK.sentence("Promise 8: NoSuchElementException: another what");
        SaidOnce x = Check.made("thing 1;thing 1;follow 0 0 1;person 1 2 ear 3 stammer 4 knows 0;absent 0");
        int[] due = {1, 2, 3, 4, 1, 1, 3, 1};
        for (int what = 0; what < 8; what++) {
            CHECK.due("what " + what, x.person(0, what), due[what]);
        }
        for (int what : new int[] {-1, 8, 9, Integer.MIN_VALUE, Integer.MAX_VALUE}) {
            CHECK.thrown("what " + what, ELEMENT, () -> x.person(0, what));
            CHECK.thrown("nobody, what " + what, INDEX, () -> x.person(1, what));
        }
    }

    private static void followsTillNothingMore() {
        CHECK.sentence("KNOWS also all that FOLLOWS by RULES from what one KNOWS, till nothing more does");
        String person = "person 0 0" + BEHIND;
        SaidOnce x = Check.made(Check.lines(10, "thing 1"),
                "follow 8 8 9;follow 7 7 8;follow 6 6 7;follow 5 5 6;follow 4 4 5;"
                + "follow 3 3 4;follow 2 2 3;follow 1 1 2;follow 0 0 1", person + " knows 0;person 1 0" + BEHIND
                + ";person 2 0" + BEHIND + " knows 9;person 3 0" + BEHIND + " knows 5");
        CHECK.due("one behind another", x.person(0, 6), 1023);
        CHECK.due("from nothing nothing", x.person(1, 6), 0);
        CHECK.due("nothing more", x.person(2, 6), 512);
        CHECK.due("from the middle", x.person(3, 6), 0b1111100000);
        CHECK.due("what one knows stays", x.person(0, 4), 1);
        CHECK.due("all by thinking", x.think(0), 1022);
        SaidOnce twelve = Check.made("thing 1;thing 1;" + Check.lines(11, "follow 1 1 1") + ";follow 0 0 1", person
                + " knows 0");
        CHECK.due("by the twelfth rule", twelve.person(0, 6), 3);
        CHECK.due("by the twelfth rule", twelve.thing(1, 3), 1);
        CHECK.due("by the twelfth rule", twelve.exam(), 2);
        SaidOnce y = Check.made("thing 1;thing 1;thing 1;follow 0 1 2;" + person + " knows 0;person 1 1" + BEHIND
                + " knows 1;"
                + "person 2 2" + BEHIND + " knows 0 1");
        CHECK.due("the first alone", y.person(0, 6), 1);
        CHECK.due("the second alone", y.person(1, 6), 2);
        CHECK.due("both", y.person(2, 6), 7);
    }

    private static void lost() {
        CHECK.sentence("LOST by a SILENCE of one: THINGS that nobody else not ABSENT KNOWS, as bits");
        SaidOnce x = Check.made(Check.lines(10, "thing 1"), "person 0 0" + BEHIND + " knows 0 9");
        CHECK.due("alone: all that one knows", x.person(0, 7), 1 | 1 << 9);
        Check.school(x, "person 1 0" + BEHIND + " knows 9 5;person 2 0" + BEHIND);
        CHECK.due("not what another one knows", x.person(0, 7), 1);
        CHECK.due("of the other one", x.person(1, 7), 1 << 5);
        CHECK.due("knowing nothing", x.person(2, 7), 0);
        x.away(1, true);
        CHECK.due("another one who is absent", x.person(0, 7), 1 | 1 << 9);
        CHECK.due("nothing of what one does not know", x.person(2, 7), 0);
        x.away(1, false);
        CHECK.due("and is back", x.person(0, 7), 1);
        Check.school(x, "said 0 0");
        CHECK.due("silent things too", x.person(0, 7), 1);
    }

    private static void ruleWhat() {
        CHECK.sentence("Promise 9: NONE without. NoSuchElementException: another what");
        SaidOnce x = Check.made("thing 1;thing 1;thing 1;follow 0 1 2;follow 2 1 0");
        int[][] due = {{0, 1, 2}, {2, 1, 0}};
        for (int k = 0; k < 2; k++) {
            for (int what = 0; what < 3; what++) {
                CHECK.due("rule " + k, x.rule(k, what), due[k][what]);
            }
        }
        for (int k : new int[] {-1, 2, 11, 12, Integer.MIN_VALUE, Integer.MAX_VALUE}) {
            CHECK.due("no rule", x.rule(k, 0), -1);
            CHECK.due("no rule", x.rule(k, 2), -1);
            CHECK.thrown("no rule, what 3", ELEMENT, () -> x.rule(k, 3));
        }
        for (int what : new int[] {-1, 3, Integer.MIN_VALUE, Integer.MAX_VALUE}) {
            CHECK.thrown("what " + what, ELEMENT, () -> x.rule(0, what));
        }
    }

    // Promises 12, 13 and 20 to 22.

    private static void hearsNobodyMustKnow() {
        CHECK.sentence("Promise 12: what the other one TAKES a SAYING by one AS; NONE, if not HEARD");
        SaidOnce x = Check.made("thing 1;thing 1;person 0 0 ear 0 stammer 100;person 0 2 ear 0 stammer 0;person 0 5 ear 2 stammer 0;"
                + "said 1 0");
        CHECK.due("not known, in the store, by one who stammers", x.hears(0, 1, 0, 1), 1);
        CHECK.due("thing 0", x.hears(0, 0, 0, 1), 0);
        CHECK.due("one too far", x.hears(0, 1, 0, 2), -1);
        CHECK.due("at just that reach", x.hears(1, 1, 0, 2), 1);
    }

    private static void audienceOfNone() {
        CHECK.sentence("AUDIENCE of a SAYING by one: who would HEAR it, as bits; RIGHT: those who TAKE it AS its THING");
        SaidOnce x = full(BEHIND);
        CHECK.due("never oneself", x.audience(5, 0, 0, false), 1 << 3 | 1 << 4 | 1 << 6 | 1 << 7);
        CHECK.due("the first", x.audience(0, 0, 0, false), 6);
        CHECK.due("the last", x.audience(9, 0, 0, false), 1 << 7 | 1 << 8);
        CHECK.due("all of them right", x.audience(9, 9, 5, true), 1 << 7 | 1 << 8);
        Check.law(x, "far 9;as 1 if whom < 9");
        CHECK.due("all others", x.audience(0, 0, 0, false), 1022);
        CHECK.due("the last alone right", x.audience(0, 0, 0, true), 512);
        CHECK.due("by the last nobody", x.audience(9, 0, 0, true), 0);
        SaidOnce y = Check.made("thing 1;person 0 0" + BEHIND);
        CHECK.due("alone", y.audience(0, 0, 0, false) + y.audience(0, 0, 0, true), 0);
    }

    private static void sayable() {
        CHECK.sentence("SAYABLE: THINGS that somebody not ABSENT KNOWS with some LEFT, as bits");
        SaidOnce x = Check.made(Check.lines(10, "thing 2"), "person 0 0" + BEHIND
                + " knows 0 9;person 9 9 ear 0 stammer 100 knows 9 5");
        CHECK.due("what somebody knows", x.sayable(), 1 | 1 << 5 | 1 << 9);
        x.away(0, true);
        CHECK.due("somebody not absent", x.sayable(), 1 << 5 | 1 << 9);
        x.away(1, true);
        CHECK.due("nobody is there", x.sayable(), 0);
        x.day();
        Check.school(x, "said 9 0;said 0 0;said 0 1");
        CHECK.due("one wording is some left", x.sayable(), 1 << 5 | 1 << 9);
        Check.school(x, "said 9 1");
        CHECK.due("none left", x.sayable(), 1 << 5);
    }

    private static void dumb() {
        CHECK.sentence("DUMB: PEOPLE who can say nothing now, as bits");
        SaidOnce x = Check.made("thing 2;thing 1;person 0 0" + BEHIND + " knows 0;person 1 0" + BEHIND
                + ";person 2 0 ear 0 stammer 100 "
                + "knows 0 1");
        CHECK.due("who knows nothing", x.dumb(), 2);
        x.away(2, true);
        CHECK.due("who is absent", x.dumb(), 6);
        x.away(2, false);
        Check.school(x, "said 0 0");
        CHECK.due("one wording is enough", x.dumb(), 2);
        Check.school(x, "said 0 1");
        CHECK.due("who knows a silent thing alone", x.dumb(), 3);
        Check.school(x, "said 1 0");
        CHECK.due("all is silent", x.dumb(), 7);
        CHECK.due("ten who know nothing", full(BEHIND).dumb(), 1023);
        CHECK.due("without things", Check.made("person 0 0" + BEHIND).dumb(), 1);
    }

    private static void silent() {
        CHECK.sentence("SILENT: THINGS of which nothing is LEFT, as bits");
        SaidOnce x = Check.made("thing 2;thing 1;said 0 0");
        CHECK.due("one is left", x.silent(), 0);
        Check.school(x, "said 0 1");
        CHECK.due("nothing is left", x.silent(), 1);
        Check.school(x, "said 1 0");
        CHECK.due("of both", x.silent(), 3);
        SaidOnce y = Check.made(Check.lines(10, "thing 1"), Check.lines(1, "said 9 0"));
        CHECK.due("the last", y.silent(), 512);
    }

    // Promises 27, 29 to 31.

    private static void exam() {
        CHECK.sentence("EXAM: THINGS that FOLLOW for somebody not ABSENT, who does not KNOW them, and of which nothing is in THE STORE");
        SaidOnce x = Check.made("thing 1;thing 2;thing 1;follow 0 0 1;follow 1 1 2;person 0 0" + BEHIND
                + " knows 0;person 9 9" + BEHIND
                + " knows 0 1");
        CHECK.due("what follows for somebody", x.exam(), 6);
        x.away(0, true);
        CHECK.due("somebody not absent", x.exam(), 4);
        x.think(1);
        CHECK.due("who does not know it", x.exam(), 0);
        x.day();
        CHECK.due("another one knows it", x.exam(), 6);
        Check.school(x, "said 1 1");
        CHECK.due("one wording is in the store", x.exam(), 4);
        Check.school(x, "said 0 0;said 2 0");
        CHECK.due("nothing", x.exam(), 0);
        for (int said = 0; said < 10; said++) {
            SaidOnce y = Check.made(Check.lines(10, "thing 6"),
                    "follow 9 9 0;follow 9 9 1;follow 9 9 2;follow 9 9 3;follow 9 9 4;follow 9 9 5;"
                    + "follow 9 9 6;follow 9 9 7;follow 9 9 8", "follow 0 0 9;person 0 0" + BEHIND
                    + " knows 9;person 1 0" + BEHIND
                    + " knows 8;person 2 0" + BEHIND + " knows 0");
            CHECK.due("all but what nothing follows for", y.exam(), 1023);
            Check.school(y, "said " + said + " " + (said % 2 == 0 ? 0 : 5));
            CHECK.due("all but that one", y.exam(), 1023 - (1 << said));
        }
    }

    private static void alike() {
        CHECK.sentence("ALIKE: THINGS in which two are alike (both KNOW, or neither), as bits");
        SaidOnce x = Check.made(Check.lines(10, "thing 1"), "person 0 0" + BEHIND + " knows 0 9;person 1 0" + BEHIND
                + " knows 9 1;"
                + "person 2 0" + BEHIND + " knows 0 9;person 3 0" + BEHIND + " knows 1 2 3 4 5 6 7 8");
        CHECK.due("both or neither", x.alike(0, 1), 0b1111111100);
        CHECK.due("all", x.alike(0, 2), 1023);
        CHECK.due("none", x.alike(0, 3), 0);
        x.away(2, true);
        CHECK.due("absent", x.alike(2, 0), 1023);
        SaidOnce y = Check.made("person 0 0" + BEHIND + ";person 1 0" + BEHIND);
        CHECK.due("without things", y.alike(0, 1), 0);
    }

    private static void ask() {
        CHECK.sentence("ASK: the least THING in which they are not; none");
        SaidOnce x = Check.made(Check.lines(10, "thing 1"), "person 0 0" + BEHIND + " knows 3 9;person 1 0" + BEHIND
                + " knows 3;"
                + "person 2 0" + BEHIND + " knows 0 3 9;person 3 0" + BEHIND + " knows 3 9");
        CHECK.due("the last", x.ask(0, 1), 9);
        CHECK.due("the first", x.ask(0, 2), 0);
        CHECK.due("the least", x.ask(1, 2), 0);
        CHECK.due("none", x.ask(0, 3), -1);
        CHECK.thrown("both are one", ARGUMENT, () -> x.ask(3, 3));
        SaidOnce y = Check.made("person 0 0" + BEHIND + ";person 1 0" + BEHIND);
        CHECK.due("without things", y.ask(1, 0), -1);
    }

    private static void groups() {
        CHECK.sentence("GROUPS: how many unlike sets of KNOWN THINGS there are; the most PEOPLE of one; Promise 31: (0 without)");
        SaidOnce x = Check.made(Check.lines(4, "thing 1"));
        CHECK.due("nobody", x.groups(false), 0);
        CHECK.due("nobody", x.groups(true), 0);
        Check.school(x, "person 0 0" + BEHIND);
        CHECK.due("one", x.groups(false), 1);
        CHECK.due("one", x.groups(true), 1);
        for (int k = 1; k < 10; k++) {
            Check.school(x, "person " + k + " 0" + BEHIND + (k < 6 ? "" : " knows 0 1 2 3".substring(0, 2 * k - 4)));
        }
        CHECK.due("nothing known, and four unlike sets", x.groups(false), 5);
        CHECK.due("six know nothing", x.groups(true), 6);
        CHECK.due("all alike", full(BEHIND).groups(false), 1);
        CHECK.due("all alike", full(BEHIND + " knows 3").groups(true), 10);
    }

    // Promises 42, 43 and 50.

    private static void between() {
        CHECK.sentence("BETWEEN two: THINGS that the other one would TAKE a SAYING AS that the one can say now (not stammered; also "
                + "such as the other one KNOWS), as bits");
        SaidOnce x = Check.made(Check.lines(10, "thing 2"), "person 0 0 ear 0 stammer 100 knows 0 9;person 0 2" + BEHIND
                + " knows 0 5;person 0 5" + BEHIND);
        CHECK.due("not stammered, known to the other one too", x.between(0, 1), 1 | 1 << 9);
        CHECK.due("too far", x.between(0, 2), 0);
        CHECK.due("knowing nothing", x.between(2, 1), 0);
        Check.law(x, "as 1 if wording > 0");
        CHECK.due("going round", x.between(0, 1), 1 | 2 | 1 << 9);
        Check.school(x, "said 9 0;said 0 1");
        CHECK.due("what is left", x.between(0, 1), 1);
        Check.school(x, "said 9 1;said 0 0");
        CHECK.due("nothing left", x.between(0, 1), 0);
        x.away(0, true);
        CHECK.due("the other one can say 5 and 6", x.between(1, 0), 0);
        x.away(0, false);
        CHECK.due("who is back hears", x.between(1, 0), 1 << 5 | 1 << 6);
        x.away(1, true);
        CHECK.due("who is absent says nothing", x.between(1, 0), 0);
    }

    private static void echo() {
        CHECK.sentence("ECHO of a SAYING by one: how many unlike THINGS it is TAKEN AS; the one that most TAKE it AS (of several the "
                + "least; none)");
        SaidOnce x = full(BEHIND);
        Check.law(x, "far 9" + ";as 1 if whom > 4;as 4 if whom > 8");
        CHECK.due("three", x.echo(0, 0, 0, false), 3);
        CHECK.due("four and four: the least", x.echo(0, 0, 0, true), 0);
        CHECK.due("four and four going round", x.echo(0, 9, 0, true), 0);
        x.away(1, true);
        CHECK.due("three and four", x.echo(0, 0, 0, true), 1);
        CHECK.due("three and four going round", x.echo(0, 8, 0, true), 9);
        Check.law(x, "far 9;as 1 if whom > 0;as 1 if whom > 1;as 1 if whom > 2;as 1 if whom > 3;as 1 if whom > 4;as 1 if whom > 5;"
                + "as 1 if whom > 6;as 1 if whom > 7;as 1 if whom > 8");
        CHECK.due("all unlike", x.echo(0, 0, 0, false), 8);
        CHECK.due("one each: the least", x.echo(0, 0, 0, true), 2);
        CHECK.due("one each going round: the least", x.echo(0, 5, 0, true), 0);
        Check.law(x, "near 2");
        CHECK.due("nobody hears", x.echo(0, 0, 0, false), 0);
        CHECK.due("none", x.echo(0, 0, 0, true), -1);
        CHECK.due("alone", Check.made("thing 1;person 0 0" + BEHIND).echo(0, 0, 0, true), -1);
    }

    private static void setsOfNone() {
        CHECK.sentence("Sets are bits; of none they count for nothing");
        SaidOnce x = new SaidOnce();
        CHECK.due("of an empty school", x.sayable() | x.dumb() | x.silent() | x.exam() | x.count(9), 0);
        CHECK.due("the store", x.store(), 0);
        Check.school(x, "thing 1;person 0 0" + BEHIND + ";person 9 9" + BEHIND);
        CHECK.due("who knows it", x.thing(0, 2), 0);
        CHECK.due("what is known, follows, is lost", x.person(0, 4) | x.person(0, 6) | x.person(0, 7), 0);
        CHECK.due("who hears it, and rightly", x.audience(0, 0, 0, false) | x.audience(0, 0, 0, true), 0);
        CHECK.due("what is thought of", x.think(0), 0);
        CHECK.due("what is sayable, silent, in the exam", x.sayable() | x.silent() | x.exam(), 0);
        CHECK.due("who must be away", x.kept(0, 0), 0);
        CHECK.due("what is between", x.between(0, 1), 0);
        Check.school(x, "person 0 9" + BEHIND + " knows 0;person 9 0" + BEHIND);
        CHECK.due("who learns by it", x.say(2, 0, 0), 0);
        CHECK.due("by the log", x.log(0, 3), 0);
        CHECK.due("what two are alike in", x.alike(2, 0), 0);
        Check.tape(x, 0, 0, 0, 0);
        CHECK.due("what was said", x.what(0), 0);
        x.away(0, true);
        x.away(1, true);
        x.away(3, true);
        CHECK.due("speakers", x.speakers(0), 0);
    }

    private static void countWhat() {
        CHECK.sentence("Promise 50: NONE for another what; LINES of THE LAW (NONE without one)");
        SaidOnce x = Check.made("thing 2;thing 1;thing 1;person 0 0" + BEHIND + " knows 0;person 1 0" + BEHIND
                + ";follow 0 0 1;loud 7",
                "said 1 0;said 2 0");
        CHECK.due("without a law", x.count(4), -1);
        Check.law(x, "as 0");
        x.day();
        x.say(0, 0, 0);
        x.away(1, true);
        int[] due = {3, 2, 1, 2, 1, 1, 7, 3, 1, 2, 1, 3};
        for (int what = 0; what < 12; what++) {
            CHECK.due("what " + what, x.count(what), due[what]);
        }
        for (int what : new int[] {-1, 12, 13, -2, Integer.MIN_VALUE, Integer.MAX_VALUE}) {
            CHECK.due("what " + what, x.count(what), -1);
        }
    }
}
