import java.util.NoSuchElementException;

/** Promises 14 to 19, 35 to 39 and 44 to 49: a test for each sentence of the document that names a boundary case there. */
public final class ActBoundaryTest {
    private static final Check CHECK = new Check("ActBoundaryTest");
    private static final Class<? extends Exception> INDEX = IndexOutOfBoundsException.class;
    private static final Class<? extends Exception> ARGUMENT = IllegalArgumentException.class;
    private static final Class<? extends Exception> STATE = IllegalStateException.class;
    private static final Class<? extends Exception> ELEMENT = NoSuchElementException.class;
    private static final String BEHIND = " ear 0 stammer 0";

    /** A row of four of whom each hears who sits beside; from thing 0 follows 1. */
    private static final String ROW = "thing 3;thing 2;person 0 0 ear 0 stammer 0 knows 0;person 1 0 ear 0 stammer 0;"
            + "person 2 0 ear 0 stammer 0;person 3 0 ear 0 stammer 0 knows 1;loud 1;follow 0 0 1";

    public static void main(String[] args) {
        saidByOneWhoIsThere();
        saidByOneWhoKnows();
        saidOnce();
        inTheStoreFromThenOn();
        drawBelowStammer();
        stammerOfNoughtAndAHundred();
        eachOtherOneKnowsFromThenOn();
        byWhatTheyKnowAhead();
        seedGoesRound();
        drawsOfATerm();
        seedAtFirst();
        thinks();
        away();
        change();
        dayGoesBy();
        termOfNoughtToForty();
        noDrawButTheseTwo();
        noDrawWithoutPeopleOrThings();
        leastWordingNotInTheStore();
        eachAlsoIfItChangesNothing();
        trialLeavesNothing();
        trialOfNone();
        spanOfSixSeeds();
        logOfSixty();
        logWithout();
        learntNone();
        how();
        teacher();
        chainBegins();
        chainOfFiftyNine();
        undoneEach();
        undoneTwelve();
        undoneWithoutOne();
        textsForgetActs();
        imageIsOne();
        imageOfTheLog();
        backWithoutOne();
        backForgetsActs();
        imageStays();
        fiveHundredAndTwelveCalls();
        CHECK.finish();
    }

    private static int next(int seed) {
        return (int) (1103515245L * seed + 12345L);
    }

    /** Bits 16 to 30 of a seed that has gone on. */
    private static int drawn(int seed) {
        return (seed >> 16) & 0x7fff;
    }

    /** A seed whose next draw is that, modulo 100. */
    private static int seedFor(int rest) {
        int seed = -50;
        while (drawn(next(seed)) % 100 != rest) {
            seed++;
        }
        return seed;
    }

    // Promise 14.

    private static void saidByOneWhoIsThere() {
        CHECK.sentence("Promise 14: IllegalStateException: one is ABSENT");
        SaidOnce x = Check.made(ROW);
        x.away(0, true);
        String was = Check.digest(x);
        CHECK.thrown("absent", STATE, () -> x.say(0, 0, 0));
        CHECK.same("nothing changes", Check.digest(x), was);
        x.away(1, true);
        x.away(0, false);
        CHECK.due("the other one is absent", x.say(0, 0, 0), 0);
    }

    private static void saidByOneWhoKnows() {
        CHECK.sentence("Promise 14: IllegalStateException: .. does not KNOW the THING");
        SaidOnce x = Check.made(ROW);
        CHECK.thrown("follows, but not thought of", STATE, () -> x.say(0, 1, 0));
        CHECK.thrown("knows nothing", STATE, () -> x.say(1, 0, 0));
        CHECK.due("no act of it", x.count(11), 0);
        x.think(0);
        CHECK.due("thought of", x.say(0, 1, 0), 2);
        CHECK.due("heard", x.say(1, 1, 1), 4);
        CHECK.thrown("another thing than heard", STATE, () -> x.say(1, 0, 0));
    }

    private static void saidOnce() {
        CHECK.sentence("THE STORE: .. none of them can be SAID again; Promise 14: IllegalStateException: .. or it is in THE STORE");
        SaidOnce x = Check.made(ROW, "said 1 0");
        x.say(0, 0, 1);
        String was = Check.digest(x);
        CHECK.thrown("by oneself", STATE, () -> x.say(0, 0, 1));
        CHECK.thrown("by another one", STATE, () -> x.say(1, 0, 1));
        CHECK.thrown("told in a text", STATE, () -> x.say(3, 1, 0));
        CHECK.thrown("what is told first: no such wording", INDEX, () -> x.say(0, 0, 3));
        CHECK.same("nothing changes", Check.digest(x), was);
        CHECK.due("in another wording", x.say(1, 0, 0), 4);
        x.undo();
        x.undo();
        CHECK.due("when it was undone", x.say(0, 0, 1), 2);
    }

    private static void inTheStoreFromThenOn() {
        CHECK.sentence("SAID ..: it is in THE STORE from then on");
        SaidOnce x = Check.made("thing 3;person 0 0 ear 0 stammer 100 knows 0;person 1 0 ear 0 stammer 0;person 9 9 ear 0 stammer 0 "
                + "knows 0");
        CHECK.due("stammered", x.say(0, 0, 0), 0);
        CHECK.due("in the store", x.store(), 1);
        CHECK.due("heard by nobody", x.say(2, 0, 1), 0);
        CHECK.due("in the store", x.store(), 3);
        CHECK.thrown("not again", STATE, () -> x.say(2, 0, 0));
    }

    private static void drawBelowStammer() {
        CHECK.sentence("DRAW modulo 100 below STAMMER: nobody hears it");
        for (int stammer = 0; stammer <= 100; stammer++) {
            SaidOnce x = Check.made("thing 2;person 0 0 ear 0 stammer " + stammer + " knows 0;person 1 1 ear 0 stammer 0");
            if (stammer > 0) {
                x.seed(seedFor(stammer - 1));
                CHECK.due("one below " + stammer, x.say(0, 0, 0), 0);
                CHECK.due("stammered", x.log(0, 4), 1);
                CHECK.due("nothing learnt", x.person(1, 4), 0);
            }
            if (stammer < 100) {
                x.seed(seedFor(stammer));
                CHECK.due("just " + stammer, x.say(0, 0, 1), 2);
                CHECK.due("not stammered", x.log(0, 4), 0);
                CHECK.due("learnt", x.person(1, 4), 1);
            }
        }
    }

    private static void stammerOfNoughtAndAHundred() {
        CHECK.sentence("STAMMER 0 to 100");
        SaidOnce x = Check.made("thing 1;person 0 0 ear 0 stammer 0 knows 0;person 1 1 ear 0 stammer 0");
        SaidOnce y = Check.made("thing 1;person 0 0 ear 0 stammer 100 knows 0;person 1 1 ear 0 stammer 0");
        for (int k = 0; k < 100; k++) {
            x.seed(seedFor(k));
            y.seed(seedFor(k));
            CHECK.due("never", x.say(0, 0, 0), 2);
            CHECK.due("always", y.say(0, 0, 0), 0);
            x.undo();
            y.undo();
        }
    }

    private static void eachOtherOneKnowsFromThenOn() {
        CHECK.sentence("each other one who HEARS it KNOWS from then on what one TAKES it AS; Promise 14: who learnt something, as bits");
        SaidOnce x = Check.made(Check.lines(10, "thing 2"));
        for (int k = 0; k < 10; k++) {
            Check.school(x, "person " + k + " 0" + BEHIND + (k == 4 ? " knows 9" : k == 5 ? " knows 0" : ""));
        }
        Check.law(x, "far 9;as 1 if wording > 0");
        CHECK.due("all but oneself", x.say(4, 9, 0), 1023 - 16);
        CHECK.due("all but oneself and one who knew it", x.say(4, 9, 1), 1023 - 16 - 32);
        CHECK.due("oneself does not take it", x.person(4, 4), 512);
        CHECK.due("the first", x.person(0, 4), 513);
        CHECK.due("the last", x.person(9, 4), 513);
        CHECK.due("what was known stays", x.person(5, 4), 513);
        CHECK.due("nobody", x.say(9, 0, 0), 16);
        CHECK.due("as another thing", x.say(9, 0, 1), 1023 - 512);
        x.away(0, true);
        x.think(3);
        CHECK.due("all who are there", x.say(1, 1, 0), 512);
    }

    private static void byWhatTheyKnowAhead() {
        CHECK.sentence("(all by what they KNOW ahead of it)");
        SaidOnce x = Check.made("thing 2;thing 2;thing 2;person 0 0 ear 0 stammer 0 knows 0;person 1 0" + BEHIND
                + ";person 2 0" + BEHIND
                + " knows 0;loud 9");
        Check.law(x, "as 1 if known");
        CHECK.due("two learn", x.say(0, 0, 0), 6);
        CHECK.due("who did not know it took it rightly", x.learnt(0, 1), 0);
        CHECK.due("and as nothing else", x.person(1, 4), 1);
        CHECK.due("who knew it took it as another thing", x.learnt(0, 2), 1);
        CHECK.due("by what is known now", x.say(0, 0, 1), 2);
        CHECK.due("as another thing", x.learnt(0, 1), 1);
    }

    private static void seedGoesRound() {
        CHECK.sentence("DRAW: SEED is 1103515245 times SEED and 12345, as an int that goes round; bits 16 to 30");
        int[] seeds = {0, 1, -1, 2, 77777, -123456789, Integer.MAX_VALUE, Integer.MIN_VALUE, 1 << 30, -1103515245};
        for (int seed : seeds) {
            for (int stammer = 0; stammer <= 100; stammer += 10) {
                SaidOnce x = Check.made("thing 1;person 0 0 ear 0 stammer " + stammer + " knows 0;person 1 1" + BEHIND);
                CHECK.due("it was 1", x.seed(seed), 1);
                x.say(0, 0, 0);
                CHECK.due("stammered from " + seed, x.log(0, 4), drawn(next(seed)) % 100 < stammer ? 1 : 0);
                CHECK.due("seed behind " + seed, x.seed(0), next(seed));
            }
        }
    }

    /** All know all, so that a term says whatever is drawn and left: played along with draws of one's own. */
    private static void drawsOfATerm() {
        CHECK.sentence("each: DRAW modulo PEOPLE: one; DRAW modulo THINGS: a THING");
        for (int people = 1; people <= 10; people += 3) {
            for (int things = 1; things <= 10; things += 3) {
                for (int seed : new int[] {1, -1, Integer.MIN_VALUE, 123456789 * people}) {
                    SaidOnce x = Check.made(Check.lines(things, "thing 6"));
                    for (int k = 0; k < people; k++) {
                        Check.school(x, "person " + k + " 0" + BEHIND + " knows 0 1 2 3 4 5 6 7 8 9".substring(0, 6
                                + 2 * things));
                    }
                    x.seed(seed);
                    int due = playAlong(x, 25, people, things, seed);
                    CHECK.due("rows", x.count(10), due);
                }
            }
        }
    }

    private static int playAlong(SaidOnce x, int n, int people, int things, int from) {
        int[] used = new int[things];
        int[] whos = new int[n];
        int[] sayings = new int[n];
        int seed = from;
        int said = 0;
        for (int k = 0; k < n; k++) {
            seed = next(seed);
            int who = drawn(seed) % people;
            seed = next(seed);
            int thing = drawn(seed) % things;
            if (used[thing] < 6) {
                whos[said] = who;
                sayings[said] = 6 * thing + used[thing];
                used[thing]++;
                said++;
                seed = next(seed);
            }
        }
        CHECK.due("said", x.term(n), said);
        CHECK.due("seed", x.seed(seed), seed);
        for (int k = 0; k < said; k++) {
            CHECK.due("who", x.log(said - 1 - k, 1), whos[k]);
            CHECK.due("the saying", x.log(said - 1 - k, 2), sayings[k]);
        }
        return said;
    }

    private static void seedAtFirst() {
        CHECK.sentence("(SEED 1 at first); Promise 46: SEED: what it was");
        SaidOnce x = Check.made(ROW);
        CHECK.due("at first", x.seed(Integer.MIN_VALUE), 1);
        CHECK.due("least", x.seed(Integer.MAX_VALUE), Integer.MIN_VALUE);
        CHECK.due("most", x.seed(0), Integer.MAX_VALUE);
        CHECK.due("nought", x.seed(-1), 0);
        CHECK.due("below nought", x.seed(-1), -1);
        CHECK.due("no act", x.count(11), 0);
        Check.school(x, "");
        Check.law(x, "");
        CHECK.due("texts leave it", x.seed(1), -1);
    }

    // Promises 15 to 19.

    private static void thinks() {
        CHECK.sentence("Promise 15: THINKS: what one KNOWS more, as bits");
        SaidOnce x = Check.made(Check.lines(10, "thing 1"), "follow 8 7 9;follow 0 0 8;follow 0 8 7;follow 9 9 9",
                "person 0 0" + BEHIND
                + " knows 0;person 1 0" + BEHIND + " knows 8;person 2 0" + BEHIND);
        CHECK.due("all that follows", x.think(0), 7 << 7);
        CHECK.due("knows", x.person(0, 4), 1 | 7 << 7);
        CHECK.due("nothing more", x.think(0), 0);
        CHECK.due("half of two is nothing", x.think(1), 0);
        CHECK.due("from nothing nothing", x.think(2), 0);
        CHECK.due("nobody else", x.person(1, 4), 1 << 8);
        CHECK.due("acts", x.count(11), 4);
        CHECK.due("no row", x.count(10), 0);
        CHECK.due("without rules", Check.made("thing 1;person 0 0" + BEHIND + " knows 0").think(0), 0);
    }

    private static void away() {
        CHECK.sentence("Promise 16: ABSENT, or back: whether that changed");
        SaidOnce x = Check.made(ROW);
        CHECK.due("back when there", x.away(3, false), false);
        CHECK.due("absent", x.away(3, true), true);
        CHECK.due("absent when absent", x.away(3, true), false);
        CHECK.due("that one alone", x.count(9), 8);
        CHECK.due("back", x.away(3, false), true);
        CHECK.due("all there", x.count(9), 0);
    }

    private static void change() {
        CHECK.sentence("Promise 17: two change SEATS: their DISTANCE");
        SaidOnce x = Check.made("person 0 9 ear 1 stammer 2;person 9 0 ear 3 stammer 4;person 1 8" + BEHIND + ";absent 1");
        CHECK.due("nine apart", x.change(0, 1), 9);
        CHECK.due("0 sits at 9 0", x.person(0, 0) * 10 + x.person(0, 1), 90);
        CHECK.due("1 sits at 0 9", x.person(1, 0) * 10 + x.person(1, 1), 9);
        CHECK.due("ears stay", x.person(0, 2) * 10 + x.person(1, 2), 13);
        CHECK.due("who is absent stays so", x.count(9), 2);
        CHECK.due("now one apart", x.change(2, 1), 1);
        CHECK.due("and again", x.change(1, 2), 1);
        CHECK.due("back again", x.change(1, 0), 9);
        CHECK.due("0 sits at 0 9", x.person(0, 0) * 10 + x.person(0, 1), 9);
    }

    private static void dayGoesBy() {
        CHECK.sentence("a DAY goes by (DAY 1 more; all who are ABSENT come back); DAY: 0 at first; Promise 18: how many come back");
        SaidOnce x = new SaidOnce();
        CHECK.due("at first", x.count(5), 0);
        CHECK.due("nobody", x.day(), 0);
        CHECK.due("one more", x.count(5), 1);
        for (int k = 0; k < 10; k++) {
            Check.school(x, "person " + k + " 0" + BEHIND + ";absent " + k);
        }
        CHECK.due("all ten", x.day(), 10);
        CHECK.due("nobody is absent", x.count(9), 0);
        CHECK.due("none more", x.day(), 0);
        x.away(4, true);
        CHECK.due("one", x.day(), 1);
        for (int k = 4; k < 300; k++) {
            x.day();
        }
        CHECK.due("many days", x.count(5), 300);
    }

    private static void termOfNoughtToForty() {
        CHECK.sentence("a TERM of N sayings (0 to 40); Promise 19: IllegalArgumentException: N is none");
        SaidOnce x = Check.made(ROW);
        String was = Check.digest(x);
        for (int n : new int[] {-1, 41, 42, Integer.MIN_VALUE, Integer.MAX_VALUE}) {
            CHECK.thrown("term " + n, ARGUMENT, () -> x.term(n));
            CHECK.thrown("trial " + n, ARGUMENT, () -> x.trial(n, 0));
            CHECK.thrown("trial of none " + n, ARGUMENT, () -> x.trial(n, -1));
            CHECK.thrown("span " + n, ARGUMENT, () -> x.span(n, true));
        }
        CHECK.same("nothing changes", Check.digest(x), was);
        CHECK.due("nought", x.term(0), 0);
        CHECK.due("no draw", x.seed(1), 1);
        CHECK.due("nought tried", x.trial(0, -1), 0);
        CHECK.due("nought in all", x.span(0, true), 0);
        SaidOnce y = Check.made(Check.lines(10, "thing 6"));
        Check.school(y, "person 0 0" + BEHIND + " knows 0 1 2 3 4 5 6 7 8 9");
        playAlong(y, 40, 1, 10, 1);
        CHECK.due("forty and more of one left", y.count(8) + y.count(10), 60);
    }

    private static void noDrawButTheseTwo() {
        CHECK.sentence("is SAID by that one, if it can be (no DRAW but these two, if it cannot)");
        int two = next(next(1));
        SaidOnce none = Check.made("thing 1;person 0 0" + BEHIND);
        CHECK.due("not known", none.term(1), 0);
        CHECK.due("two draws", none.seed(1), two);
        SaidOnce absent = Check.made("thing 1;person 0 0" + BEHIND + " knows 0;absent 0");
        CHECK.due("absent", absent.term(1), 0);
        CHECK.due("two draws", absent.seed(1), two);
        SaidOnce silent = Check.made("thing 1;person 0 0" + BEHIND + " knows 0;said 0 0");
        CHECK.due("none left", silent.term(1), 0);
        CHECK.due("two draws", silent.seed(1), two);
        CHECK.due("nothing said", silent.count(10) + absent.count(10) + none.count(10), 0);
        SaidOnce can = Check.made("thing 1;person 0 0" + BEHIND + " knows 0");
        CHECK.due("said", can.term(1), 1);
        CHECK.due("three draws", can.seed(1), next(two));
        CHECK.due("then it cannot be", can.term(3), 0);
    }

    private static void noDrawWithoutPeopleOrThings() {
        CHECK.sentence("(.. none at all without PEOPLE or THINGS)");
        for (String text : new String[] {"", "thing 1", "person 0 0" + BEHIND}) {
            SaidOnce x = Check.made(text);
            x.seed(7);
            CHECK.due("term", x.term(40), 0);
            CHECK.due("no draw", x.seed(7), 7);
            CHECK.due("yet an act", x.count(11), 1);
            CHECK.due("trial", x.trial(40, -1), 0);
            CHECK.due("most", x.span(40, true), 0);
        }
    }

    private static void leastWordingNotInTheStore() {
        CHECK.sentence("the least WORDING of it that is not in THE STORE is SAID");
        SaidOnce x = Check.made("thing 6;person 0 0" + BEHIND + " knows 0;said 0 0;said 0 3");
        int[] due = {1, 2, 4, 5};
        for (int k = 0; k < 4; k++) {
            CHECK.due("one", x.term(1), 1);
            CHECK.due("the least", x.log(0, 2), due[k]);
        }
        CHECK.due("no more", x.term(1), 0);
        x.undo();
        x.undo();
        CHECK.due("the last once more, and no more", x.term(40), 1);
    }

    private static void eachAlsoIfItChangesNothing() {
        CHECK.sentence("ACTS: .. (each also if it changes nothing)");
        SaidOnce x = Check.made(ROW);
        x.think(1);
        CHECK.due("thinking of nothing", x.count(11), 1);
        x.away(1, false);
        CHECK.due("being there", x.count(11), 2);
        x.term(0);
        CHECK.due("a term of none", x.count(11), 3);
        x.day();
        CHECK.due("a day", x.count(11), 4);
        x.change(0, 1);
        CHECK.due("a change", x.count(11), 5);
        x.say(0, 0, 0);
        CHECK.due("a saying", x.count(11), 6);
        x.seed(1);
        x.image();
        x.end(0);
        x.feed(0, 0, 0, 0, 0);
        x.trial(4, 0);
        CHECK.due("nothing else is", x.count(11), 6);
        for (int k = 5; k >= 0; k--) {
            CHECK.due("undone one for one", x.undo(), true);
            CHECK.due("so many", x.count(11), k);
        }
    }

    // Promises 35 and 36.

    private static void trialLeavesNothing() {
        CHECK.sentence("TRIAL: a TERM of N that leaves nothing");
        SaidOnce x = Check.made(ROW, "person 5 5 ear 9 stammer 50 knows 0 1");
        x.say(0, 0, 0);
        x.day();
        x.seed(-987654321);
        String was = Check.digest(x);
        int said = x.trial(40, -1);
        int[] know = {x.trial(40, 0), x.trial(40, 1)};
        CHECK.due("something was said", said > 0, true);
        CHECK.same("nothing is left of it", Check.digest(x), was);
        x.span(40, true);
        x.span(40, false);
        CHECK.same("nor of a span", Check.digest(x), was);
        CHECK.due("the term is like it", x.term(40), said);
        CHECK.due("who knows 0", Integer.bitCount(x.thing(0, 2)), know[0]);
        CHECK.due("who knows 1", Integer.bitCount(x.thing(1, 2)), know[1]);
        x.undo();
        CHECK.same("undone", Check.digest(x), was);
    }

    private static void trialOfNone() {
        CHECK.sentence("Promise 35: how many SAID (thing NONE), or how many KNOW the THING then");
        SaidOnce x = Check.made(ROW);
        CHECK.due("said of none", x.trial(0, -1), 0);
        CHECK.due("who knows 0 by no saying", x.trial(0, 0), 1);
        x.away(0, true);
        CHECK.due("who is absent knows, too", x.trial(0, 0), 1);
        CHECK.due("the last thing", x.trial(0, 1), 1);
        for (int t : new int[] {-2, 2, 10, Integer.MIN_VALUE, Integer.MAX_VALUE}) {
            CHECK.thrown("thing " + t, INDEX, () -> x.trial(0, t));
            CHECK.thrown("what is told first: thing " + t, INDEX, () -> x.trial(41, t));
        }
        SaidOnce y = Check.made("thing 1;" + Check.lines(1, "person 0 0" + BEHIND + " knows 0") + ";person 1 1" + BEHIND);
        CHECK.due("both know it by one saying", y.trial(40, 0), 2);
        CHECK.due("one was said", y.trial(40, -1), 1);
    }

    /** Ten people and ten things: the one knows that thing, or all but that, and the other ones nothing, or all. */
    private static SaidOnce knownBy(int who, int thing, boolean all) {
        SaidOnce x = Check.made(Check.lines(10, "thing 1"));
        for (int k = 0; k < 10; k++) {
            StringBuilder knows = new StringBuilder();
            for (int t = 0; t < 10; t++) {
                knows.append((k == who && t == thing) != all ? " " + t : "");
            }
            Check.school(x, "person " + k + " 0" + BEHIND + (knows.isEmpty() ? "" : " knows" + knows));
        }
        return x;
    }

    private static void spanOfSixSeeds() {
        CHECK.sentence("SPAN: the fewest and the most SAID in such TERMS from SEED 1, 2, .. 6");
        for (int seed = -1; seed <= 8; seed++) {
            int who = drawn(next(seed)) % 10;
            int thing = drawn(next(next(seed))) % 10;
            boolean counts = seed >= 1 && seed <= 6;
            CHECK.due("what is drawn from " + seed + " alone can be said", knownBy(who, thing, false).span(1, true),
                    counts ? 1 : 0);
            CHECK.due("what is drawn from " + seed + " alone cannot be", knownBy(who, thing, true).span(1, false),
                    counts ? 0 : 1);
        }
        SaidOnce x = Check.made(ROW);
        x.seed(77);
        int fewest = x.span(9, false);
        int most = x.span(9, true);
        CHECK.due("fewest and most", fewest < most, true);
        boolean isFewest = false;
        boolean isMost = false;
        for (int seed = 1; seed <= 6; seed++) {
            CHECK.due("the seed stays", x.seed(seed), seed == 1 ? 77 : seed - 1);
            int said = x.trial(9, -1);
            CHECK.due("within", said >= fewest && said <= most, true);
            isFewest |= said == fewest;
            isMost |= said == most;
        }
        CHECK.due("both come about", isFewest && isMost, true);
    }

    // Promises 37 to 39, 44 and 45.

    /** Each is heard by the next one alone, the last by the first, and a sixth wording is taken as the next thing. */
    private static SaidOnce ring() {
        SaidOnce x = Check.made(Check.lines(10, "thing 6"));
        for (int k = 0; k < 10; k++) {
            Check.school(x, "person " + k + " 0" + BEHIND + (k == 0 ? " knows 0" : ""));
        }
        Check.law(x, "far 9;near 99 if who+1<whom or who+1>whom;far 99 if who>8 and whom<1;as 1 if wording>4");
        return x;
    }

    private static void logOfSixty() {
        CHECK.sentence("THE LOG: the latest 60 SAID: DAY, who, the SAYING, who learnt something by it, what, 1 if it was stammered");
        SaidOnce x = ring();
        for (int k = 0; k < 60; k++) {
            if (k == 30) {
                x.day();
            }
            CHECK.due("said " + k, x.say(k % 10, k / 6, k % 6), k == 59 ? 0 : 1 << (k + 1) % 10);
            CHECK.due("rows", x.count(10), k + 1);
        }
        CHECK.due("all is in the store", x.store(), (1L << 60) - 1);
        for (int k = 0; k < 60; k += 59) {
            CHECK.due("day", x.log(59 - k, 0), k < 30 ? 0 : 1);
            CHECK.due("who", x.log(59 - k, 1), k % 10);
            CHECK.due("saying", x.log(59 - k, 2), k);
            CHECK.due("who learnt", x.log(59 - k, 3), k == 59 ? 0 : 2);
            CHECK.due("stammered", x.log(59 - k, 4), 0);
        }
        CHECK.due("the day ahead", x.log(30, 0), 0);
        CHECK.due("the day behind", x.log(29, 0), 1);
        CHECK.due("learnt by the oldest", x.learnt(59, 1), 0);
        CHECK.due("learnt by the one ahead of the latest", x.learnt(1, 9), 9);
        CHECK.due("nothing behind the oldest", x.log(60, 0), -1);
        CHECK.due("nothing behind the oldest", x.learnt(60, 1), -1);
        CHECK.due("no more can be said", x.term(40), 0);
        CHECK.due("sixty stay", x.count(10), 60);
        CHECK.due("the longest way", x.chain(9, 9, false), 59);
    }

    private static void logWithout() {
        CHECK.sentence("Promise 45: (0 the latest) ..; NONE without one. NoSuchElementException: another what");
        SaidOnce x = Check.made(ROW);
        for (int what = 0; what < 5; what++) {
            CHECK.due("no row yet", x.log(0, what), -1);
        }
        x.say(3, 1, 1);
        int[] due = {0, 3, 7, 4, 0};
        for (int what = 0; what < 5; what++) {
            CHECK.due("the latest", x.log(0, what), due[what]);
        }
        for (int ago : new int[] {1, 59, 60, -1, Integer.MIN_VALUE, Integer.MAX_VALUE}) {
            CHECK.due("no row " + ago, x.log(ago, 1), -1);
            CHECK.thrown("no row, what 5", ELEMENT, () -> x.log(ago, 5));
        }
        for (int what : new int[] {-1, 5, Integer.MIN_VALUE, Integer.MAX_VALUE}) {
            CHECK.thrown("what " + what, ELEMENT, () -> x.log(0, what));
        }
    }

    private static void learntNone() {
        CHECK.sentence("Promise 44: what one learnt by the row of THE LOG so many ago; NONE");
        SaidOnce x = Check.made(ROW);
        CHECK.due("no row yet", x.learnt(0, 1), -1);
        x.say(0, 0, 2);
        x.say(1, 0, 0);
        CHECK.due("by the latest", x.learnt(0, 2), 0);
        CHECK.due("by the one before", x.learnt(1, 1), 0);
        CHECK.due("not by the latest", x.learnt(0, 1), -1);
        CHECK.due("who spoke", x.learnt(1, 0), -1);
        for (int ago : new int[] {2, 60, -1, Integer.MIN_VALUE, Integer.MAX_VALUE}) {
            CHECK.due("no row", x.learnt(ago, 1), -1);
            CHECK.thrown("nobody", INDEX, () -> x.learnt(ago, 4));
            CHECK.thrown("nobody", INDEX, () -> x.learnt(ago, -1));
        }
        SaidOnce y = Check.made(Check.lines(10, "thing 1"), "person 0 0" + BEHIND + " knows 0;person 0 1" + BEHIND);
        Check.law(y, "as 9");
        y.say(0, 0, 0);
        CHECK.due("the last thing", y.learnt(0, 1), 9);
        SaidOnce z = Check.made(Check.lines(10, "thing 2"));
        for (int k = 0; k < 10; k++) {
            Check.school(z, "person " + k + " 0" + BEHIND + (k == 4 ? " knows 0" : ""));
        }
        Check.law(z, "far 9;as 9;near 1 if whom < 1;as 9 if whom > 1;as 9 if whom > 2;as 9 if whom > 3;as 9 if whom > 4;as 9 if whom > 5;"
                + "as 9 if whom > 6;as 9 if whom > 7;as 9 if whom > 8");
        z.say(4, 0, 0);
        int[] due = {9, 9, 8, 7, -1, 5, 4, 3, 2, 1};
        for (int k = 0; k < 10; k++) {
            CHECK.due("each by itself", z.learnt(0, k), due[k]);
            CHECK.due("and knows it", z.person(k, 4), k == 4 ? 1 : 1 << due[k]);
        }
    }

    private static void how() {
        CHECK.sentence("HOW one came to KNOW a THING by THE LOG: .. how long ago (0 the latest); none");
        SaidOnce x = Check.made(ROW);
        CHECK.due("known by a text", x.how(0, 0), -1);
        CHECK.due("not known", x.how(1, 0), -1);
        x.say(0, 0, 0);
        CHECK.due("the latest", x.how(1, 0), 0);
        x.say(1, 0, 1);
        x.say(0, 0, 2);
        CHECK.due("two rows ago", x.how(1, 0), 2);
        CHECK.due("one row ago", x.how(2, 0), 1);
        CHECK.due("heard, but known before", x.how(0, 0), -1);
        x.think(1);
        CHECK.due("thought of", x.how(1, 1), -1);
        x.undo();
        x.undo();
        CHECK.due("less long ago", x.how(1, 0), 1);
        x.undo();
        CHECK.due("undone", x.how(2, 0), -1);
    }

    private static void teacher() {
        CHECK.sentence("TEACHER: who taught most by THE LOG (learners of all rows together; of several the least; none)");
        SaidOnce x = Check.made("thing 6;thing 6;person 0 0 ear 0 stammer 100 knows 0 1;person 1 1" + BEHIND
                + " knows 0;person 2 2" + BEHIND
                + " knows 1;person 3 3" + BEHIND + ";person 9 9" + BEHIND + " knows 0;loud 1");
        CHECK.due("no row", x.teacher(), -1);
        x.say(0, 0, 0);
        x.say(4, 0, 1);
        CHECK.due("rows, but no learners", x.teacher(), -1);
        x.say(2, 1, 0);
        CHECK.due("two learners", x.teacher(), 2);
        x.say(1, 0, 2);
        CHECK.due("one learner is fewer", x.teacher(), 2);
        x.say(2, 0, 3);
        x.say(1, 1, 1);
        CHECK.due("three by two rows", x.teacher(), 2);
        x.undo();
        x.undo();
        x.undo();
        x.undo();
        CHECK.due("undone", x.teacher(), -1);
        SaidOnce y = Check.made(ROW);
        y.say(3, 1, 0);
        CHECK.due("by one row", y.teacher(), 3);
        y.say(0, 0, 0);
        CHECK.due("of two the least", y.teacher(), 0);
        y.say(1, 0, 1);
        CHECK.due("of three the least", y.teacher(), 0);
    }

    private static void chainBegins() {
        CHECK.sentence("CHAIN: .. how many rows; who is at its begin (oneself without any row; none, if one does not KNOW the THING); "
                + "Promise 39: NONE (0 rows)");
        SaidOnce x = Check.made(ROW);
        CHECK.due("without any row", x.chain(0, 0, false), 0);
        CHECK.due("oneself", x.chain(0, 0, true), 0);
        CHECK.due("not known", x.chain(3, 0, false), 0);
        CHECK.due("none", x.chain(3, 0, true), -1);
        x.say(0, 0, 0);
        CHECK.due("one row", x.chain(1, 0, false), 1);
        CHECK.due("from 0", x.chain(1, 0, true), 0);
        x.think(1);
        CHECK.due("thought of", x.chain(1, 1, false), 0);
        CHECK.due("oneself", x.chain(1, 1, true), 1);
        CHECK.due("what was thought of is said", x.say(1, 1, 0), 5);
        CHECK.due("one row", x.chain(2, 1, false), 1);
        CHECK.due("from who thought", x.chain(2, 1, true), 1);
        x.undo();
        x.undo();
        x.undo();
        CHECK.due("undone", x.chain(1, 0, true), -1);
        CHECK.due("undone", x.chain(1, 0, false), 0);
    }

    private static void chainOfFiftyNine() {
        CHECK.sentence("CHAIN: .. by rows older than that one, and so on: how many rows");
        SaidOnce x = ring();
        for (int k = 0; k < 59; k++) {
            x.say(k % 10, k / 6, k % 6);
            int person = (k + 1) % 10;
            int thing = (k + 1) / 6;
            CHECK.due("rows", x.chain(person, thing, false), k + 1);
            CHECK.due("begin", x.chain(person, thing, true), 0);
        }
        CHECK.due("in the middle", x.chain(5, 5, false), 35);
        CHECK.due("not known", x.chain(0, 9, true), -1);
    }

    // Promises 47 to 49.

    private static void act(SaidOnce x, int kind) {
        switch (kind) {
            case 0 -> x.say(0, 0, 0);
            case 1 -> x.say(4, 0, 1);
            case 2 -> x.think(0);
            case 3 -> x.think(1);
            case 4 -> x.away(1, true);
            case 5 -> x.away(3, false);
            case 6 -> x.away(1, false);
            case 7 -> x.change(0, 3);
            case 8 -> x.day();
            case 9 -> x.term(0);
            default -> x.term(40);
        }
    }

    private static void undoneEach() {
        CHECK.sentence("UNDONE: the latest ACT not undone yet: all is as ahead of it (but for the TAPE, fault(), THE IMAGE)");
        for (int first = 0; first <= 10; first++) {
            for (int second = 0; second <= 10; second++) {
                SaidOnce x = Check.made(ROW, "person 5 5 ear 9 stammer 100 knows 0 1;absent 3");
                x.seed(31);
                String was = Check.digest(x);
                act(x, first);
                if (first > 1 && first < 10 || second > 1) {
                    x.seed(first);
                    String between = Check.digest(x);
                    act(x, second);
                    Check.schoolFault(x, "loud");
                    Check.tape(x, 1, 2, 3);
                    CHECK.due("undo " + second, x.undo(), true);
                    CHECK.same("as ahead of " + second + " behind " + first, Check.digest(x), between);
                    CHECK.due("the fault stays", x.fault(), 4);
                    CHECK.due("the tape stays", Check.tapeHas(x, 3), true);
                }
                CHECK.due("undo " + first, x.undo(), true);
                CHECK.same("as ahead of " + first, Check.digest(x), was);
                CHECK.due("no more", x.undo(), false);
            }
        }
    }

    private static void undoneTwelve() {
        CHECK.sentence("UNDONE: .. (12 are remembered)");
        for (int acts = 11; acts <= 14; acts++) {
            SaidOnce x = Check.made(ROW);
            for (int k = 0; k < acts; k++) {
                x.day();
                CHECK.due("remembered", x.count(11), Math.min(12, k + 1));
            }
            for (int k = 0; k < Math.min(12, acts); k++) {
                CHECK.due("undo", x.undo(), true);
                CHECK.due("day", x.count(5), acts - 1 - k);
            }
            CHECK.due("no more", x.undo(), false);
            CHECK.due("the day stays", x.count(5), Math.max(0, acts - 12));
        }
        SaidOnce y = Check.made(ROW);
        for (int k = 0; k < 50; k++) {
            y.day();
            y.day();
            CHECK.due("the latest of many", y.undo() && y.count(5) == k + 1, true);
        }
    }

    private static void undoneWithoutOne() {
        CHECK.sentence("Promise 47: UNDONE: whether there was one");
        SaidOnce x = Check.made(ROW);
        x.seed(4);
        String was = Check.digest(x);
        CHECK.due("none", x.undo(), false);
        CHECK.thrown("refused", STATE, () -> x.say(1, 0, 0));
        CHECK.thrown("refused", ARGUMENT, () -> x.term(41));
        CHECK.thrown("refused", ARGUMENT, () -> x.change(1, 1));
        CHECK.thrown("refused", INDEX, () -> x.think(4));
        CHECK.thrown("refused", INDEX, () -> x.away(4, true));
        CHECK.due("what is refused is no act", x.undo(), false);
        CHECK.same("nothing happens", Check.digest(x), was);
    }

    private static void textsForgetActs() {
        CHECK.sentence("A text, going back: none are remembered");
        SaidOnce x = Check.made(ROW);
        x.day();
        CHECK.due("a wrong text", Check.schoolFault(x, "bell"), 0);
        CHECK.due("forgets none", x.count(11), 1);
        CHECK.due("a wrong law", Check.lawFault(x, "bell"), 0);
        CHECK.due("forgets none", x.count(11), 1);
        Check.school(x, "");
        CHECK.due("an empty text forgets", x.count(11), 0);
        CHECK.due("none", x.undo(), false);
        x.day();
        Check.law(x, "");
        CHECK.due("an empty law forgets", x.count(11), 0);
        CHECK.due("none", x.undo(), false);
        CHECK.due("the days stay", x.count(5), 2);
        for (int k = 0; k < 10; k++) {
            Check.school(x, "");
        }
        x.day();
        Check.schoolFault(x, "");
        CHECK.due("a 13th text forgets none", x.count(11), 1);
        CHECK.due("one", x.undo(), true);
    }

    private static void imageIsOne() {
        CHECK.sentence("THE IMAGE (one) of all may be kept, and gone back to");
        SaidOnce x = Check.made(ROW);
        Check.law(x, "as 1 if known");
        x.say(0, 0, 0);
        Check.law(x, "as 1");
        x.seed(5);
        String first = Check.digest(x);
        x.image();
        Check.school(x, "thing 1;person 7 7 ear 7 stammer 7 knows 2;follow 2 1 0;said 2 0;absent 0;loud 7");
        Check.law(x, "as 2;as 0");
        x.away(0, false);
        x.think(0);
        x.change(0, 4);
        x.term(20);
        x.day();
        Check.school(x, "");
        CHECK.due("back", x.back(), true);
        CHECK.same("all is as it was", Check.digest(x), first);
        x.say(0, 0, 1);
        Check.law(x, "near 1");
        String second = Check.digest(x);
        x.image();
        x.term(40);
        CHECK.due("back", x.back(), true);
        CHECK.same("to the latest one", Check.digest(x), second);
        CHECK.due("back as often as one likes", x.back() && x.back(), true);
        CHECK.same("to the latest one", Check.digest(x), second);
    }

    private static void imageOfTheLog() {
        CHECK.sentence("THE IMAGE (one) of all may be kept, and gone back to");
        SaidOnce x = Check.made(ROW, "person 0 1 ear 0 stammer 100 knows 0 1");
        x.day();
        x.say(0, 0, 0);
        x.say(3, 1, 0);
        String was = Check.state(x);
        x.image();
        x.undo();
        x.undo();
        x.undo();
        x.say(4, 1, 1);
        x.say(4, 0, 2);
        x.say(3, 1, 0);
        CHECK.due("other rows now", x.log(2, 4), 1);
        x.back();
        CHECK.same("the rows of the image", Check.state(x), was);
        CHECK.due("day", x.log(1, 0), 1);
        CHECK.due("who", x.log(1, 1), 0);
        CHECK.due("the saying", x.log(1, 2), 0);
        CHECK.due("who learnt", x.log(1, 3), 2);
        CHECK.due("what", x.learnt(1, 1), 0);
        CHECK.due("stammered", x.log(1, 4), 0);
    }

    private static void backWithoutOne() {
        CHECK.sentence("Promise 49: true; false, and nothing happens, if none was kept");
        SaidOnce x = Check.made(ROW);
        x.say(0, 0, 0);
        x.day();
        Check.tape(x, 1, 2, 3);
        String was = Check.digest(x);
        CHECK.due("none", x.back(), false);
        CHECK.same("nothing happens", Check.digest(x), was);
        CHECK.due("acts are remembered", x.count(11), 2);
        CHECK.due("the tape stays", Check.tapeHas(x, 3), true);
        SaidOnce y = new SaidOnce();
        y.image();
        Check.school(y, ROW);
        CHECK.due("to an empty school", y.back(), true);
        CHECK.due("empty", y.count(0) + y.count(1) + y.count(2) + y.count(3), 0);
        CHECK.due("without a law", y.count(4), -1);
        CHECK.due("told again", Check.school(y, ROW), 1);
    }

    private static void backForgetsActs() {
        CHECK.sentence("going back: none are remembered");
        SaidOnce x = Check.made(ROW);
        x.day();
        x.day();
        x.image();
        CHECK.due("an image forgets none", x.count(11), 2);
        x.day();
        CHECK.due("back", x.back(), true);
        CHECK.due("none", x.count(11), 0);
        CHECK.due("none to undo", x.undo(), false);
        CHECK.due("the days of the image", x.count(5), 2);
        x.day();
        CHECK.due("acts behind it", x.undo() && x.count(5) == 2, true);
    }

    private static void fiveHundredAndTwelveCalls() {
        CHECK.sentence("An object is used for at most 512 calls after it has been made");
        SaidOnce x = new SaidOnce();
        for (int k = 0; k < 511; k++) {
            x.day();
        }
        CHECK.due("the 512th", x.count(5), 511);
        SaidOnce y = Check.made(ROW);
        int calls = 13;
        for (int k = 0; calls + 4 <= 512; k++) {
            calls += 4;
            CHECK.due("said anew", y.say(0, 0, k % 3), 2);
            CHECK.due("learnt anew", y.learnt(0, 1), 0);
            CHECK.due("undone anew", y.undo(), true);
            CHECK.due("nothing of it", y.store(), 0);
        }
    }

    private static void imageStays() {
        CHECK.sentence("THE IMAGE .. gone back to (but for the TAPE, fault() and THE IMAGE itself)");
        SaidOnce x = Check.made(ROW);
        Check.schoolFault(x, "loud");
        Check.tape(x, 1, 2, 3, 4, 5);
        x.image();
        x.end(4);
        x.back();
        CHECK.due("the tape stays", Check.tapeHas(x, 4), true);
        Check.lawFault(x, "as 1 if");
        x.back();
        CHECK.due("the fault stays", x.fault(), 7);
        x.day();
        x.image();
        x.undo();
        CHECK.due("undone", x.count(5), 0);
        CHECK.due("the image is not undone", x.back() && x.count(5) == 1, true);
        Check.school(x, "loud 9");
        CHECK.due("a text leaves it", x.back() && x.count(6) == 1, true);
    }
}
