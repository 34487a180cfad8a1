import java.util.Arrays;

/** Promises 23 to 26, 28, 32 to 34, 40 and 41: a test for each sentence of the document that names a boundary case there. */
public final class SearchBoundaryTest {
    private static final Check CHECK = new Check("SearchBoundaryTest");
    private static final Class<? extends Exception> INDEX = IndexOutOfBoundsException.class;
    private static final Class<? extends Exception> ARGUMENT = IllegalArgumentException.class;
    private static final String BEHIND = " ear 0 stammer 0";
    private static final String MUTE = " ear 0 stammer 100";

    public static void main(String[] args) {
        planHowMany();
        planNone();
        planByWhoKnowsByThen();
        planWordingsLeft();
        planNobodyStammers();
        planTakenAsThat();
        planFirst();
        planFirstOfMany();
        planNoneNeeded();
        keptKnown();
        keptNobody();
        keptOthersNotAbsent();
        keptInAllWordings();
        keptOverAndOver();
        keptTakenAsThat();
        keptFewestAndLeast();
        keptByAll();
        seatsLeastFirst();
        seatsNone();
        seatsOfWhoIsAbsent();
        whatABytePerPerson();
        whatNoThing();
        whatInTheStoreOrNot();
        whatComesSoToAllOthers();
        lastOfNobody();
        lastInOrder();
        lastByThen();
        lastOverAndOver();
        lastLeft();
        keepsWhoCanSayNothing();
        keepsInTurns();
        marginBelowNought();
        callNone();
        callLeastOfSeveral();
        callStammer();
        callBestWordingLeft();
        spotLeast();
        spotNobodyElseHas();
        spotNone();
        speakersNone();
        speakersFewestAndLeast();
        speakersWordingsLeft();
        CHECK.finish();
    }

    /** So many people in a row, of whom those with a bit set know thing 0. */
    private static void people(SaidOnce x, int n, int knowers, String behind) {
        for (int k = 0; k < n; k++) {
            Check.school(x, "person " + k + " 0" + behind + ((knowers >> k & 1) != 0 ? " knows 0" : ""));
        }
    }

    /** Each hears who sits beside. */
    private static SaidOnce row(int wordings, int n, int knowers) {
        SaidOnce x = Check.made("thing " + wordings + ";thing 2;loud 1");
        people(x, n, knowers, BEHIND);
        return x;
    }

    // Promise 23.

    private static void planHowMany() {
        CHECK.sentence("PLAN for a THING: the fewest SAYINGS of it by which all who are not ABSENT KNOW it: how many");
        for (int n = 1; n <= 7; n++) {
            SaidOnce x = row(6, n, 1);
            CHECK.due("a row of " + n, x.plan(0, false), n - 1);
            CHECK.due("begun by 0", x.plan(0, true), n == 1 ? -1 : 0);
        }
        SaidOnce y = row(6, 10, 1 << 4);
        CHECK.due("both ways", y.plan(0, false), -1);
        y.away(0, true);
        y.away(9, true);
        CHECK.due("from the middle: to 5 and 3, to 6, 7 and 8, to 2 and 1", y.plan(0, false), 6);
        CHECK.due("4 begins", y.plan(0, true), 40);
        Check.law(y, "far 9");
        CHECK.due("one for all", y.plan(0, false), 1);
        CHECK.due("in the least wording", y.plan(0, true), 40);
    }

    private static void planNone() {
        CHECK.sentence("Promise 23: how many, or the first; NONE");
        SaidOnce x = row(6, 2, 0);
        CHECK.due("nobody knows it", x.plan(0, false), -1);
        CHECK.due("no first", x.plan(0, true), -1);
        SaidOnce y = row(6, 8, 1);
        CHECK.due("seven are needed", y.plan(0, false), -1);
        CHECK.due("no first", y.plan(0, true), -1);
        SaidOnce z = row(6, 2, 1);
        Check.school(z, "person 9 9" + BEHIND);
        CHECK.due("one hears nobody", z.plan(0, false), -1);
        z.away(2, true);
        CHECK.due("one who is absent", z.plan(0, false), 1);
    }

    private static void planByWhoKnowsByThen() {
        CHECK.sentence("(each by one who KNOWS it by then and is not ABSENT ..; others KNOW it from then on)");
        SaidOnce x = row(3, 3, 1);
        CHECK.due("1 says it when it knows it", x.plan(0, false), 2);
        x.away(0, true);
        CHECK.due("who knows it is absent", x.plan(0, false), -1);
        x.away(0, false);
        x.away(1, true);
        CHECK.due("who would hear it is absent", x.plan(0, false), -1);
        x.away(2, true);
        CHECK.due("all who are there know it", x.plan(0, false), 0);
        CHECK.due("nobody learnt it", x.thing(0, 2), 1);
    }

    private static void planWordingsLeft() {
        CHECK.sentence("in a WORDING that is LEFT, none twice");
        SaidOnce x = row(4, 4, 1);
        CHECK.due("three of four", x.plan(0, false), 3);
        Check.school(x, "said 0 0");
        CHECK.due("three of three", x.plan(0, false), 3);
        CHECK.due("the least that is left", x.plan(0, true), 1);
        Check.school(x, "said 0 2");
        CHECK.due("three of two", x.plan(0, false), -1);
        Check.school(x, "said 0 1;said 0 3");
        CHECK.due("none left", x.plan(0, false), -1);
        CHECK.due("none left", x.plan(0, true), -1);
        SaidOnce y = row(6, 10, 1 << 9);
        Check.law(y, "far 9");
        Check.school(y, "said 0 0;said 0 1;said 0 2;said 0 3;said 0 4");
        CHECK.due("the last by the last", y.plan(0, true), 95);
    }

    private static void planNobodyStammers() {
        CHECK.sentence("nobody stammering");
        SaidOnce x = Check.made("thing 2;loud 1");
        people(x, 3, 1, MUTE);
        CHECK.due("two", x.plan(0, false), 2);
        CHECK.due("no draw", x.seed(1), 1);
    }

    private static void planTakenAsThat() {
        CHECK.sentence("others KNOW it from then on who HEAR it and TAKE it AS that");
        SaidOnce x = row(3, 2, 1);
        Check.law(x, "as 1 if wording < 2");
        CHECK.due("in the one wording", x.plan(0, true), 2);
        Check.law(x, "as 1");
        CHECK.due("never", x.plan(0, false), -1);
        Check.law(x, "as 2");
        CHECK.due("all round", x.plan(0, true), 0);
        Check.law(x, "as 1 if not known");
        CHECK.due("by what one does not know ahead", x.plan(0, false), -1);
        Check.law(x, "as 1 if known");
        CHECK.due("who does not know it takes it rightly", x.plan(0, false), 1);
        Check.school(x, "person 0 1" + BEHIND + " knows 1");
        Check.law(x, "as 1");
        CHECK.due("another thing that is taken as that is no saying of it", x.plan(0, false), -1);
    }

    private static void planFirst() {
        CHECK.sentence("the first of them in the first such plan (by who, then WORDING): 10 times who and the WORDING");
        SaidOnce x = row(6, 4, 3);
        CHECK.due("0 is of no use", x.plan(0, true), 10);
        CHECK.due("1 and 2", x.plan(0, false), 2);
        Check.law(x, "near 1 if wording < 1 and who < 2");
        CHECK.due("1 in wording 1", x.plan(0, true), 11);
        Check.law(x, "far 1 if wording > 4 and who < 1");
        CHECK.due("0 to 2 in wording 5, or 1 to 2: 0 is less", x.plan(0, true), 5);
        Check.law(x, "far 1 if wording > 2");
        CHECK.due("1 to 2 and 3 in wording 3", x.plan(0, true), 13);
        CHECK.due("one is fewer", x.plan(0, false), 1);
        SaidOnce y = Check.made("thing 3;loud 1;person 0 0" + BEHIND + " knows 0;person 1 0" + BEHIND + ";person 9 9"
                + BEHIND
                + " knows 0;person 9 8" + BEHIND);
        CHECK.due("both begin", y.plan(0, true), 0);
        Check.law(y, "near 9 if wording < 1 and who < 1");
        CHECK.due("wording 0 is for 2, yet 0 begins", y.plan(0, true), 1);
        Check.law(y, "near 9 if wording < 2 and who < 1");
        CHECK.due("wording 2 by 0", y.plan(0, true), 2);
        Check.law(y, "near 9 if who < 1");
        CHECK.due("none", y.plan(0, true), -1);
    }

    private static void planFirstOfMany() {
        CHECK.sentence("the first of them in the first such plan");
        SaidOnce x = row(6, 6, 1);
        Check.school(x, "person 7 0" + BEHIND);
        Check.law(x, "far 1 if wording < 1 and who > 4");
        CHECK.due("six", x.plan(0, false), 6);
        CHECK.due("wording 0 is kept for the last one", x.plan(0, true), 1);
        Check.law(x, "far 1 if wording > 1 and wording < 3 and who > 4");
        CHECK.due("wording 2 is", x.plan(0, true), 0);
        Check.law(x, "far 1 if wording < 5 and who > 4;near 9 if wording < 5 and who < 1");
        CHECK.due("0 can say wording 5 alone", x.plan(0, true), 5);
        Check.law(x, "far 9 if wording < 1;near 9 if wording > 0 and who > 0");
        CHECK.due("one is fewest, though others tell some", x.plan(0, false), 1);
        CHECK.due("that one", x.plan(0, true), 0);
        SaidOnce w = row(6, 8, 1);
        Check.law(w, "far 1 if wording < 1 and who > 4");
        CHECK.due("5 to both", w.plan(0, false), 6);
        CHECK.due("wording 0 is kept for it", w.plan(0, true), 1);
        SaidOnce v = Check.made("thing 2;loud 1;person 1 0" + BEHIND + ";person 0 0" + BEHIND + " knows 0;person 2 0"
                + BEHIND);
        CHECK.due("1 to 0, 0 to 2", v.plan(0, false), 2);
        CHECK.due("1 begins", v.plan(0, true), 10);
        SaidOnce y = row(6, 10, 0b0011111111);
        CHECK.due("7 to 8, 8 to 9", y.plan(0, false), 2);
        CHECK.due("7 begins", y.plan(0, true), 70);
        Check.law(y, "far 1 if wording > 2");
        CHECK.due("7 to both", y.plan(0, true), 73);
        Check.law(y, "far 1 if wording > 2;far 2 if wording > 3");
        CHECK.due("5 to both", y.plan(0, true), 54);
        Check.law(y, "near 1 if wording < 3 and who > 6 and who < 8");
        CHECK.due("7 in another wording", y.plan(0, true), 73);
        SaidOnce z = Check.made("thing 3;loud 1;person 0 0" + BEHIND + " knows 0;person 1 0" + BEHIND + ";person 5 0"
                + BEHIND
                + " knows 0;person 6 0" + BEHIND + ";person 7 0" + BEHIND + ";person 2 0" + BEHIND);
        CHECK.due("two ways of two, three wordings", z.plan(0, false), -1);
        Check.law(z, "far 1 if wording > 1 and who < 1");
        CHECK.due("0 to both in wording 2", z.plan(0, true), 2);
        CHECK.due("three", z.plan(0, false), 3);
        Check.law(z, "far 1 if wording < 1 and who > 1");
        CHECK.due("2 to both in wording 0, 0 begins in wording 1", z.plan(0, true), 1);
        Check.law(z, "far 1 if wording < 1 and who > 1;near 9 if who < 1 and wording < 2");
        CHECK.due("0 begins in wording 2", z.plan(0, true), 2);
    }

    private static void planNoneNeeded() {
        CHECK.sentence("(none, if none is needed)");
        SaidOnce x = row(1, 2, 3);
        CHECK.due("all know it", x.plan(0, false), 0);
        CHECK.due("no first", x.plan(0, true), -1);
        Check.school(x, "said 0 0");
        CHECK.due("though none is left", x.plan(0, false), 0);
        SaidOnce y = Check.made("thing 1");
        CHECK.due("nobody", y.plan(0, false), 0);
        CHECK.due("no first", y.plan(0, true), -1);
        SaidOnce z = row(1, 2, 0);
        z.away(0, true);
        z.away(1, true);
        CHECK.due("nobody is there", z.plan(0, false), 0);
    }

    // Promise 24.

    private static void keptKnown() {
        CHECK.sentence("KEPT FROM ..: -2, if that one KNOWS it");
        SaidOnce x = row(1, 2, 1);
        CHECK.due("knows it", x.kept(0, 0), -2);
        x.away(0, true);
        CHECK.due("absent, but knows it", x.kept(0, 0), -2);
        x.day();
        CHECK.due("does not know it", x.kept(1, 0), 1);
        x.say(0, 0, 0);
        CHECK.due("knows it now", x.kept(1, 0), -2);
    }

    private static void keptNobody() {
        CHECK.sentence("KEPT FROM a PERSON a THING: the fewest others who must be ABSENT, too, so that the one can never learn it");
        SaidOnce x = row(1, 3, 0);
        CHECK.due("nobody knows it", x.kept(2, 0), 0);
        CHECK.due("alone", row(1, 1, 0).kept(0, 0), 0);
        SaidOnce y = row(1, 3, 1);
        CHECK.due("one must be", y.kept(1, 0), 1);
        y.away(1, true);
        CHECK.due("who is absent never learns it", y.kept(1, 0), 0);
        y.away(1, false);
        Check.law(y, "near 1");
        CHECK.due("nobody hears", y.kept(1, 0), 0);
        CHECK.due("all are there yet", y.count(9), 0);
    }

    private static void keptOthersNotAbsent() {
        CHECK.sentence("others (not ABSENT now) who must be ABSENT, too");
        SaidOnce x = row(1, 5, 0b10001);
        CHECK.due("2 from both sides", x.kept(2, 0), 0b01001);
        x.away(0, true);
        CHECK.due("from one side, 0 is absent now", x.kept(2, 0), 0b01000);
        x.away(3, true);
        CHECK.due("from neither", x.kept(2, 0), 0);
        CHECK.due("1 from nobody", x.kept(1, 0), 0);
    }

    private static void keptInAllWordings() {
        CHECK.sentence("if all who are there and KNOW it say it in all its WORDINGS (in THE STORE or not)");
        SaidOnce x = row(6, 2, 1);
        Check.school(x, "said 0 0;said 0 1;said 0 2;said 0 3;said 0 4;said 0 5");
        CHECK.due("none is left", x.thing(0, 1), 0);
        CHECK.due("yet all are said", x.kept(1, 0), 1);
        Check.law(x, "near 1 if wording < 5");
        CHECK.due("heard in the last alone", x.kept(1, 0), 1);
        Check.law(x, "near 1 if wording > 0");
        CHECK.due("heard in the first alone", x.kept(1, 0), 1);
        SaidOnce y = Check.made("thing 1;loud 1");
        people(y, 2, 1, MUTE);
        CHECK.due("stammering does not help", y.kept(1, 0), 1);
    }

    private static void keptOverAndOver() {
        CHECK.sentence("over and over, and whoever HEARS it and TAKES it AS that KNOWS it from then on");
        for (int n = 2; n <= 10; n++) {
            SaidOnce up = row(1, n, 1);
            CHECK.due("to the last of " + n, up.kept(n - 1, 0), 1);
            SaidOnce down = row(1, n, 1 << n - 1);
            CHECK.due("to the first of " + n, down.kept(0, 0), 2);
        }
    }

    private static void keptTakenAsThat() {
        CHECK.sentence("whoever HEARS it and TAKES it AS that");
        SaidOnce x = row(2, 3, 1);
        Check.law(x, "as 1 if whom > 1");
        CHECK.due("2 takes it as another thing", x.kept(2, 0), 0);
        Check.law(x, "as 1 if whom > 1 and wording < 1");
        CHECK.due("but in one wording", x.kept(2, 0), 1);
        Check.law(x, "as 1 if whom < 2 and whom > 0");
        CHECK.due("1 tells nothing", x.kept(2, 0), 0);
        Check.law(x, "as 2");
        CHECK.due("all round", x.kept(2, 0), 1);
        Check.school(x, "person 2 1" + BEHIND + " knows 1");
        Check.law(x, "as 1 if thing > 0;as 1 if thing < 1");
        CHECK.due("another thing taken as that is not said", x.kept(2, 0), 0);
    }

    private static void keptFewestAndLeast() {
        CHECK.sentence("the fewest others ..: of several the least as bits");
        SaidOnce x = Check.made("thing 1;loud 1;person 1 2" + BEHIND + " knows 0;person 1 0" + BEHIND
                + " knows 0;person 2 1" + BEHIND
                + ";person 3 1" + BEHIND + ";person 4 1" + BEHIND);
        // 0 and 1 to 2 to 3 to 4: of 2 and 3 the least.
        CHECK.due("one at the neck", x.kept(4, 0), 4);
        CHECK.due("one beside", x.kept(3, 0), 4);
        CHECK.due("both who know it and sit beside", x.kept(2, 0), 3);
        Check.law(x, "far 1 if whom > 3 and who < 3 and who > 1");
        CHECK.due("past 3: 2 alone", x.kept(4, 0), 4);
        Check.law(x, "far 9 if who < 2 and whom > 3");
        CHECK.due("straight from both: both", x.kept(4, 0), 3);
    }

    private static void keptByAll() {
        CHECK.sentence("of several the least as bits");
        SaidOnce x = row(1, 10, 0b0111111111);
        Check.law(x, "far 9");
        CHECK.due("all others", x.kept(9, 0), 511);
        SaidOnce y = row(1, 10, 0b1111111110);
        Check.law(y, "far 9");
        CHECK.due("all others", y.kept(0, 0), 1022);
        y.away(9, true);
        CHECK.due("all others who are there", y.kept(0, 0), 510);
    }

    // Promise 25.

    private static void seatsLeastFirst() {
        CHECK.sentence("SEATS: the two PEOPLE whose change of SEATS lets most HEAR a SAYING by one (of several the least first, then second "
                + "one): 10 times the one and the other");
        SaidOnce x = Check.made("thing 1;loud 1;person 5 5" + BEHIND + ";person 0 0" + BEHIND + ";person 0 1" + BEHIND
                + ";person 9 9" + BEHIND
                + ";person 9 8" + BEHIND);
        CHECK.due("0 hears nobody: with 1 one, with 2 one, ..", x.seats(0, 0, 0, false), 1);
        CHECK.due("one", x.seats(0, 0, 0, true), 1);
        CHECK.due("of 1 one hears now", x.seats(1, 0, 0, false), -1);
        Check.school(x, "person 8 9" + BEHIND);
        CHECK.due("with 3 two", x.seats(0, 0, 0, false), 3);
        CHECK.due("two", x.seats(0, 0, 0, true), 2);
        CHECK.due("1 with the least of three", x.seats(1, 0, 0, false), 13);
        CHECK.due("seats stay", x.person(0, 0) * 100 + x.person(3, 0), 509);
        SaidOnce y = row(1, 10, 0);
        Check.law(y, "far 9 if who > 8 and apart < 2;near 9 if who < 9");
        CHECK.due("9 hears 8 alone", y.seats(9, 0, 0, true), 2);
        CHECK.due("9 changes with 1", y.seats(9, 0, 0, false), 19);
        SaidOnce z = Check.made("thing 1;loud 1;person 0 0" + BEHIND + ";person 1 0 ear 8 stammer 0;person 9 0" + BEHIND
                + ";person 9 9" + BEHIND);
        CHECK.due("now 1 alone", z.audience(0, 0, 0, false), 2);
        CHECK.due("1 hears as far as one can sit: with 2 or with 3", z.seats(0, 0, 0, false), 12);
        CHECK.due("two", z.seats(0, 0, 0, true), 2);
        SaidOnce w = Check.made("thing 1;loud 1;person 0 0" + BEHIND + ";person 4 4" + BEHIND + ";person 4 5" + BEHIND
                + ";person 4 6" + BEHIND,
                "person 5 4" + BEHIND + ";person 5 6" + BEHIND + ";person 6 4" + BEHIND + ";person 6 5" + BEHIND
                + ";person 6 6" + BEHIND
                + ";person 5 5" + BEHIND);
        CHECK.due("the first with the last", w.seats(0, 0, 0, false), 9);
        CHECK.due("eight", w.seats(0, 0, 0, true), 8);
        CHECK.due("the last but one with the last", w.seats(8, 0, 0, false), 89);
        CHECK.due("eight", w.seats(8, 0, 0, true), 8);
    }

    private static void seatsNone() {
        CHECK.sentence("(none, if no change makes more than now HEAR it); how many HEAR it then (as now, if none)");
        SaidOnce x = Check.made("thing 1;loud 9");
        people(x, 10, 0, BEHIND);
        CHECK.due("all hear it", x.seats(0, 0, 0, false), -1);
        CHECK.due("nine as now", x.seats(0, 0, 0, true), 9);
        Check.law(x, "near 99");
        CHECK.due("nobody ever", x.seats(0, 0, 0, false), -1);
        CHECK.due("none as now", x.seats(0, 0, 0, true), 0);
        SaidOnce y = row(1, 1, 0);
        CHECK.due("alone", y.seats(0, 0, 0, false), -1);
        CHECK.due("none as now", y.seats(0, 0, 0, true), 0);
        SaidOnce z = row(1, 2, 0);
        CHECK.due("two: always as far apart", z.seats(1, 0, 0, false), -1);
        CHECK.due("one as now", z.seats(1, 0, 0, true), 1);
        SaidOnce last = row(1, 10, 0);
        CHECK.due("0 with 1", last.seats(0, 0, 0, false), 1);
        Check.law(last, "near 9 if apart < 2 and whom < 8;near 9 if who < 1;far 9 if who > 8 and apart > 8");
        CHECK.due("no more by a change", last.seats(9, 0, 0, true), 2);
    }

    private static void seatsOfWhoIsAbsent() {
        CHECK.sentence("the two PEOPLE whose change of SEATS lets most HEAR");
        SaidOnce x = Check.made("thing 1;loud 1;person 0 0" + BEHIND + ";person 1 0" + BEHIND + ";person 9 9" + BEHIND
                + ";absent 1");
        CHECK.due("2 to the seat of one who is absent", x.seats(0, 0, 0, false), 12);
        CHECK.due("one", x.seats(0, 0, 0, true), 1);
        x.away(0, true);
        CHECK.due("nobody hears who is absent", x.seats(0, 0, 0, false), -1);
        CHECK.due("none", x.seats(0, 0, 0, true), 0);
    }

    // Promise 26.

    private static void whatABytePerPerson() {
        CHECK.sentence("WHAT was said: .. a byte for each PERSON");
        SaidOnce x = row(2, 3, 0);
        for (int n = 0; n <= 20; n++) {
            int[] bytes = new int[n];
            Arrays.fill(bytes, 255);
            Check.tape(x, bytes);
            if (n == 3) {
                CHECK.due("three", x.what(1), 0);
            } else {
                CHECK.thrown(n + " bytes", ARGUMENT, () -> x.what(1));
            }
            CHECK.due("used up", Check.tapeHas(x, 0), true);
        }
        SaidOnce y = row(6, 1, 0);
        Check.tape(y, 255);
        CHECK.due("alone: all come so", y.what(0), 0b11111111);
        CHECK.thrown("none", ARGUMENT, () -> y.what(0));
        Check.tape(y, 1);
        CHECK.due("one's own byte counts for nothing", y.what(0), 0b11111111);
        SaidOnce z = new SaidOnce();
        CHECK.thrown("nobody", INDEX, () -> z.what(0));
        SaidOnce w = Check.made("person 0 0" + BEHIND + ";person 1 0" + BEHIND);
        Check.tape(w, 255, 255);
        CHECK.due("no things", w.what(0), 0);
        Check.tape(w, 255, 0);
        CHECK.thrown("no thing is one", ARGUMENT, () -> w.what(0));
    }

    private static void whatNoThing() {
        CHECK.sentence("Promise 26: IllegalArgumentException: the TAPE is not that (a byte that is no THING, nor 255)");
        SaidOnce x = row(2, 3, 0);
        for (int b = 0; b < 256; b++) {
            boolean fits = b < 2 || b == 255;
            for (int p = 0; p < 3 && (b < 5 || b > 250 || b == 127 || b == 128); p++) {
                int[] bytes = {255, 255, 255};
                bytes[p] = b;
                Check.tape(x, bytes);
                if (fits) {
                    CHECK.due("byte " + b, Check.outcome(() -> x.what(1)).contains("Exception"), false);
                } else {
                    CHECK.thrown("byte " + b, ARGUMENT, () -> x.what(1));
                }
            }
        }
        Check.tape(x, 2, 255, 255);
        CHECK.thrown("what is told first", INDEX, () -> x.what(3));
        CHECK.due("used up", Check.tapeHas(x, 0), true);
        Check.tape(x, 2, 255, 255);
        CHECK.thrown("what is told first", INDEX, () -> x.what(-1));
        CHECK.due("no text: fault()", x.fault(), -1);
    }

    private static void whatInTheStoreOrNot() {
        CHECK.sentence("SAYINGS by one, in THE STORE or not, .. as bits of a long");
        SaidOnce x = Check.made(Check.lines(10, "thing 6"), "said 9 5;said 9 0;person 0 0" + BEHIND + ";person 0 1"
                + BEHIND);
        Check.tape(x, 255, 9);
        CHECK.due("the last ones", x.what(0), 63L << 54);
        Check.tape(x, 255, 0);
        CHECK.due("the first ones", x.what(0), 63L);
        Check.tape(x, 255, 5);
        CHECK.due("across the middle", x.what(0), 63L << 30);
        Check.law(x, "near 9");
        Check.tape(x, 255, 255);
        CHECK.due("all", x.what(0), (1L << 60) - 1);
        Check.tape(x, 255, 9);
        CHECK.due("none", x.what(0), 0);
    }

    private static void whatComesSoToAllOthers() {
        CHECK.sentence("that would come so to all others (that one's byte counts for nothing); 255: heard nothing");
        SaidOnce x = row(2, 4, 0);
        Check.tape(x, 0, 255, 0, 255);
        CHECK.due("thing 0 by 1", x.what(1), 3);
        Check.tape(x, 0, 1, 0, 255);
        CHECK.due("its own byte", x.what(1), 3);
        Check.tape(x, 0, 0, 0, 0);
        CHECK.due("3 hears nothing of it", x.what(1), 0);
        Check.tape(x, 0, 0, 255, 255);
        CHECK.due("2 hears it", x.what(1), 0);
        Check.tape(x, 0, 0, 1, 255);
        CHECK.due("one thing alone", x.what(1), 0);
        x.away(2, true);
        Check.tape(x, 1, 0, 255, 255);
        CHECK.due("thing 1, 2 is absent", x.what(1), 3 << 6);
        Check.law(x, "as 1 if whom < 1 and wording < 1");
        Check.tape(x, 1, 0, 255, 255);
        CHECK.due("thing 0 in wording 0, thing 1 in wording 1", x.what(1), 1 | 1 << 7);
    }

    // Promise 28.

    private static void lastOfNobody() {
        CHECK.sentence("LAST: .. all LEFT of all THINGS that somebody not ABSENT KNOWS then");
        SaidOnce x = row(6, 3, 0);
        CHECK.due("nobody knows anything", x.last(), 0);
        Check.school(x, "person 9 9" + MUTE + " knows 0 1");
        CHECK.due("one who is heard by nobody", x.last(), 8);
        x.away(3, true);
        CHECK.due("and absent", x.last(), 0);
        SaidOnce y = Check.made(Check.lines(10, "thing 6"), "person 0 0" + BEHIND + " knows 0 1 2 3 4 5 6 7 8 9");
        CHECK.due("all", y.last(), 60);
        y.say(0, 3, 3);
        CHECK.due("less one", y.last(), 59);
    }

    private static void lastInOrder() {
        CHECK.sentence("all who are not ABSENT say (by who, then THING, then WORDING) all SAYINGS LEFT .., each heard and TAKEN at once");
        String others = ";person 0 1" + BEHIND + ";person 0 2" + BEHIND;
        SaidOnce wording = Check.made("thing 2;thing 5;person 0 0" + BEHIND + " knows 0" + others);
        Check.law(wording, "as 1 if wording < 1 and not known;near 9 if who > 0");
        CHECK.due("wording 0 comes first, as thing 1", wording.last(), 7);
        Check.law(wording, "as 1 if wording > 0 and not known;near 9 if who > 0");
        CHECK.due("wording 1 comes when it is known", wording.last(), 2);
        SaidOnce who = Check.made("thing 2;thing 5;person 0 0" + BEHIND + " knows 0;person 9 9" + BEHIND
                + " knows 0;person 0 1 ear 9 stammer 0");
        Check.law(who, "as 1 if who < 1 and not known;near 9 if who > 1");
        CHECK.due("0 comes first, as thing 1", who.last(), 7);
        Check.law(who, "as 1 if who > 0 and not known;near 9 if who > 1");
        CHECK.due("1 comes when it is known", who.last(), 2);
        SaidOnce thing = Check.made("thing 1;thing 1;thing 5;person 0 0" + BEHIND + " knows 0 1;person 0 1" + BEHIND);
        Check.law(thing, "as 1 if thing < 1;as 1 if thing > 0 and thing < 2 and not known;near 9 if who > 0");
        CHECK.due("thing 0 comes first, as thing 1, which is known then", thing.last(), 2);
        Check.law(thing, "as 2 if thing < 1 and not known;as 2 if thing > 0 and thing < 2;near 9 if who > 0");
        CHECK.due("thing 0 comes first, as thing 2", thing.last(), 7);
    }

    private static void lastByThen() {
        CHECK.sentence("all SAYINGS LEFT of what they KNOW by then, none being used up");
        SaidOnce x = row(1, 4, 1);
        Check.law(x, "as 1 if whom > 2");
        CHECK.due("3 takes it as thing 1, from 2, from 1, from 0", x.last(), 3);
        x.away(2, true);
        CHECK.due("2 is absent", x.last(), 1);
        x.day();
        CHECK.due("nothing was learnt or used up", x.thing(0, 2) * 10 + x.thing(0, 1), 11);
        SaidOnce y = Check.made("thing 1;thing 1;loud 1");
        people(y, 4, 1, MUTE);
        Check.law(y, "as 1 if whom > 2");
        CHECK.due("nobody stammers", y.last(), 2);
    }

    private static void lastOverAndOver() {
        CHECK.sentence("over and over, till nobody learns anything in a whole going through");
        SaidOnce x = row(1, 10, 1 << 9);
        Check.law(x, "as 1 if whom < 1");
        CHECK.due("down the row, one each time", x.last(), 3);
        SaidOnce y = Check.made(Check.lines(10, "thing 1"), "person 0 0" + BEHIND + " knows 0;person 0 1" + BEHIND);
        Check.law(y, "as 1");
        CHECK.due("thing by thing, to and fro", y.last(), 10);
        Check.law(y, "as 9");
        CHECK.due("the other way round", y.last(), 10);
        SaidOnce w = Check.made("thing 1;thing 2;thing 3;thing 4;thing 5;thing 6;thing 1;thing 2;thing 3;thing 4");
        people(w, 10, 1 << 9, BEHIND);
        Check.law(w, "far 9;near 99 if whom + 1 < who or whom + 1 > who;far 99 if who < 1 and whom > 8;as 1 if who < 1");
        CHECK.due("ninety times down the row", w.last(), 31);
    }

    private static void lastLeft() {
        CHECK.sentence("all SAYINGS LEFT");
        SaidOnce x = row(2, 2, 1);
        Check.law(x, "as 1 if wording > 0");
        CHECK.due("thing 1 comes about", x.last(), 4);
        Check.school(x, "said 0 1");
        CHECK.due("not by what is used up", x.last(), 1);
        Check.school(x, "said 0 0");
        CHECK.due("none left", x.last(), 0);
    }

    // Promises 32 and 33.

    /** Three things of six wordings: known to the one, to the other one, to both; so many left of each. */
    private static SaidOnce game(int own, int others, int shared) {
        SaidOnce x = Check.made("thing 6;thing 6;thing 6;person 0 0" + BEHIND + " knows 0 2;person 1 0" + BEHIND
                + " knows 1 2");
        int[] left = {own, others, shared};
        for (int t = 0; t < 3; t++) {
            StringBuilder text = new StringBuilder();
            for (int w = left[t]; w < 6; w++) {
                text.append(w == left[t] ? "" : ";").append("said ").append(t).append(' ').append(w);
            }
            Check.school(x, text.toString());
        }
        return x;
    }

    /** Whether who is on turn can win, tried out. */
    private static boolean wins(int own, int others, int shared) {
        return own > 0 && !wins(others, own - 1, shared) || shared > 0 && !wins(others, own, shared - 1);
    }

    private static void keepsInTurns() {
        CHECK.sentence("KEEP: two PEOPLE in turns, the first one begins .. whether the first one can win; and by how many");
        for (int own = 0; own <= 4; own++) {
            for (int others = 0; others <= 4; others++) {
                for (int shared = 0; shared <= 4; shared++) {
                    SaidOnce x = game(own, others, shared);
                    String left = own + " and " + others + " alone, " + shared + " both";
                    CHECK.due("first of " + left, x.keeps(0, 1), wins(own, others, shared));
                    CHECK.due("second of " + left, x.keeps(1, 0), wins(others, own, shared));
                    CHECK.due("by how many of " + left, x.margin(0, 1), own + (shared + 1) / 2 - others - shared / 2);
                    CHECK.due("second by how many of " + left, x.margin(1, 0), others + (shared + 1) / 2 - own - shared / 2);
                }
            }
        }
    }

    private static void keepsWhoCanSayNothing() {
        CHECK.sentence("who can say nothing loses");
        SaidOnce x = row(1, 3, 1);
        CHECK.due("both nothing: who begins loses", x.keeps(1, 2), false);
        CHECK.due("by nothing", x.margin(1, 2), 0);
        CHECK.due("the other one nothing", x.keeps(0, 1), true);
        CHECK.due("oneself nothing", x.keeps(1, 0), false);
        Check.school(x, "said 0 0");
        CHECK.due("nothing left", x.keeps(0, 1), false);
        CHECK.due("by nothing", x.margin(0, 1), 0);
        CHECK.due("nothing is learnt or said", x.count(10) + x.count(11), 0);
        CHECK.thrown("both are one", ARGUMENT, () -> x.keeps(0, 0));
        CHECK.thrown("both are one", ARGUMENT, () -> x.margin(2, 2));
    }

    private static void marginBelowNought() {
        CHECK.sentence("Promise 33: by how many (it may be below 0)");
        SaidOnce x = Check.made(Check.lines(10, "thing 6"), "person 0 0" + BEHIND
                + " knows 0 1 2 3 4 5 6 7 8 9;person 1 0" + BEHIND
                + ";person 2 0" + BEHIND + " knows 0 1 2 3 4 5 6 7 8 9");
        CHECK.due("most", x.margin(0, 1), 60);
        CHECK.due("least", x.margin(1, 0), -60);
        CHECK.due("all shared", x.margin(0, 2), 0);
        CHECK.due("all shared: who begins loses", x.keeps(0, 2), false);
        x.say(0, 0, 0);
        CHECK.due("one less", x.margin(2, 0), 1);
        CHECK.due("who begins wins", x.keeps(2, 0), true);
    }

    // Promise 34.

    private static void callNone() {
        CHECK.sentence("CALL: .. none without such; Promise 34: who (NONE), or how much (0 without)");
        SaidOnce x = row(1, 3, 0);
        CHECK.due("nobody knows it", x.call(0, false), -1);
        CHECK.due("nothing", x.call(0, true), 0);
        SaidOnce y = row(1, 3, 2);
        CHECK.due("one", y.call(0, false), 1);
        CHECK.due("two hundred", y.call(0, true), 200);
        y.away(1, true);
        CHECK.due("absent", y.call(0, false), -1);
        CHECK.due("nothing", y.call(0, true), 0);
        y.away(1, false);
        Check.school(y, "said 0 0");
        CHECK.due("none left", y.call(0, false), -1);
        CHECK.due("nothing", y.call(0, true), 0);
        CHECK.due("without people", Check.made("thing 1").call(0, false), -1);
    }

    private static void callLeastOfSeveral() {
        CHECK.sentence("CALL: .. is the greatest (of several the least)");
        SaidOnce x = row(1, 5, 0b01110);
        CHECK.due("1 and 3: one each", x.call(0, false), 1);
        CHECK.due("a hundred", x.call(0, true), 100);
        x.away(0, true);
        CHECK.due("then 3", x.call(0, false), 3);
        x.away(4, true);
        CHECK.due("nobody is taught: the least who can", x.call(0, false), 1);
        CHECK.due("nought", x.call(0, true), 0);
        SaidOnce y = row(1, 10, 1 << 9);
        Check.law(y, "far 9");
        CHECK.due("the last", y.call(0, false), 9);
        CHECK.due("the most", y.call(0, true), 900);
    }

    private static void callStammer() {
        CHECK.sentence("100 less STAMMER times the number of RIGHT who do not KNOW it yet");
        SaidOnce x = Check.made("thing 1;thing 1;loud 1;person 0 0 ear 0 stammer 100 knows 0;person 1 0" + BEHIND
                + ";person 2 0 ear 0 stammer 99 "
                + "knows 0;person 3 0" + BEHIND + " knows 1");
        CHECK.due("one of a hundred times two", x.call(0, true), 2);
        CHECK.due("2", x.call(0, false), 2);
        x.away(2, true);
        CHECK.due("who always stammers", x.call(0, false), 0);
        CHECK.due("nought", x.call(0, true), 0);
        x.away(2, false);
        Check.law(x, "as 1 if whom > 2");
        CHECK.due("one is right", x.call(0, true), 1);
        Check.law(x, "as 1");
        CHECK.due("none is right: the least", x.call(0, false), 0);
    }

    private static void callBestWordingLeft() {
        CHECK.sentence("in one's best WORDING LEFT");
        SaidOnce x = row(6, 4, 1);
        Check.law(x, "far 1 if wording > 3;far 1 if wording > 4");
        CHECK.due("the best", x.call(0, true), 300);
        Check.school(x, "said 0 5");
        CHECK.due("the best that is left", x.call(0, true), 200);
        Check.school(x, "said 0 4;said 0 0;said 0 1;said 0 2");
        CHECK.due("the last one", x.call(0, true), 100);
        x.say(0, 0, 3);
        CHECK.due("none", x.call(0, true), 0);
    }

    // Promise 40.

    private static void spotLeast() {
        CHECK.sentence("SPOT for one to HEAR a SAYING by another one: the least SEAT (10 times X and Y)");
        SaidOnce x = Check.made("thing 1;loud 1;person 0 0" + BEHIND + ";person 9 9" + BEHIND);
        CHECK.due("0 0 is the other one's", x.spot(1, 0, 0, 0), 1);
        CHECK.due("beside 9 9", x.spot(0, 1, 0, 0), 88);
        Check.law(x, "near 99;far 99 if apart > 8;far 9 if apart > 8");
        CHECK.due("as far as can be", x.spot(1, 0, 0, 0), 9);
        CHECK.due("as far as can be: one's own", x.spot(0, 1, 0, 0), 0);
        Check.school(x, "person 0 9" + BEHIND + ";person 1 9" + BEHIND + ";person 2 9" + BEHIND);
        CHECK.due("0 9 is another one's", x.spot(1, 0, 0, 0), 39);
        CHECK.due("seats stay", x.person(1, 0) * 10 + x.person(1, 1), 99);
        SaidOnce y = Check.made("thing 1;loud 1;person 9 8" + BEHIND + ";person 8 9" + BEHIND + ";person 8 8" + BEHIND
                + ";person 8 7" + BEHIND
                + ";person 9 7" + BEHIND + ";person 0 0" + BEHIND);
        CHECK.due("the last seat", y.spot(5, 0, 0, 0), 99);
        Check.law(y, "far 9;near 9 if whom < 5");
        CHECK.due("the first seat", y.spot(5, 0, 0, 0), 0);
    }

    private static void spotNobodyElseHas() {
        CHECK.sentence("that nobody else has");
        SaidOnce x = Check.made("thing 1;loud 1;person 0 0" + BEHIND + ";person 0 1" + BEHIND + ";person 1 0" + BEHIND
                + ";absent 1");
        CHECK.due("not even who is absent", x.spot(2, 0, 0, 0), 10);
        CHECK.due("1 is absent", x.spot(1, 0, 0, 0), -1);
        x.away(1, false);
        CHECK.due("one's own", x.spot(1, 0, 0, 0), 1);
        x.change(0, 2);
        CHECK.due("where 2 sat", x.spot(1, 0, 0, 0), 1);
        CHECK.due("where one sits now", x.spot(2, 0, 0, 0), 0);
        CHECK.due("no act", x.count(11), 2);
    }

    private static void spotNone() {
        CHECK.sentence("Promise 40: SPOT; NONE. IllegalArgumentException: both are one");
        SaidOnce x = Check.made("thing 1;loud 1;person 0 0" + BEHIND + ";person 9 9" + BEHIND);
        Check.law(x, "near 1");
        CHECK.due("no seat is near enough", x.spot(1, 0, 0, 0), -1);
        Check.law(x, "near 99;far 99 if apart > 9;far 9 if apart > 9");
        CHECK.due("no seat is so far", x.spot(1, 0, 0, 0), -1);
        CHECK.due("no seat is so far", x.spot(0, 1, 0, 0), -1);
        Check.law(x, "");
        x.away(1, true);
        CHECK.due("who is absent hears nothing", x.spot(1, 0, 0, 0), -1);
        CHECK.due("nor is heard", x.spot(0, 1, 0, 0), -1);
        CHECK.thrown("one", ARGUMENT, () -> x.spot(1, 1, 0, 0));
        CHECK.thrown("what is told first", INDEX, () -> x.spot(2, 2, 0, 0));
        CHECK.thrown("what is told first", INDEX, () -> x.spot(1, 1, 0, 1));
        CHECK.thrown("what is told first", INDEX, () -> x.spot(1, 1, -1, 0));
    }

    // Promise 41.

    private static void speakersNone() {
        CHECK.sentence("SPEAKERS of a THING: ..; none");
        SaidOnce x = row(1, 3, 0);
        CHECK.due("nobody knows it", x.speakers(0), -1);
        CHECK.due("of nobody none is needed", Check.made("thing 1").speakers(0), 0);
        SaidOnce y = row(1, 3, 1);
        CHECK.due("2 hears nobody", y.speakers(0), -1);
        y.away(2, true);
        CHECK.due("2 is absent", y.speakers(0), 1);
        y.away(0, true);
        CHECK.due("who knows it is absent", y.speakers(0), -1);
        y.away(1, true);
        CHECK.due("nobody is there", y.speakers(0), 0);
        SaidOnce z = row(1, 3, 7);
        CHECK.due("all know it", z.speakers(0), 0);
        Check.school(z, "said 0 0");
        CHECK.due("though none is left", z.speakers(0), 0);
    }

    private static void speakersFewestAndLeast() {
        CHECK.sentence("the fewest who are not ABSENT and KNOW it ..: of several the least as bits");
        SaidOnce x = row(1, 5, 0b10101);
        CHECK.due("2 alone", x.speakers(0), 0b00100);
        x.away(2, true);
        CHECK.due("both", x.speakers(0), 0b10001);
        x.away(2, false);
        x.away(3, true);
        CHECK.due("0 or 2: the least", x.speakers(0), 1);
        x.away(1, true);
        CHECK.due("none is needed", x.speakers(0), 0);
        SaidOnce y = row(1, 10, 0b1010101010);
        CHECK.due("1, 3 and 7, or 1, 5 and 7, or 1, 5 and 9", y.speakers(0), 0b0010001010);
        SaidOnce z = row(1, 10, 1 << 9);
        Check.law(z, "far 9");
        CHECK.due("the last", z.speakers(0), 512);
    }

    private static void speakersWordingsLeft() {
        CHECK.sentence("each saying it in any WORDINGS LEFT, .. HEAR it RIGHT from one of them (each as now)");
        SaidOnce x = row(3, 4, 1);
        Check.law(x, "far 2 if wording > 1;as 1 if wording > 1 and whom < 2;as 1 if wording < 2 and whom > 1");
        CHECK.due("1 in the first, 2 and 3 in the last", x.speakers(0), 1);
        Check.school(x, "said 0 0");
        CHECK.due("1 in the second", x.speakers(0), 1);
        Check.school(x, "said 0 2");
        CHECK.due("the last is used up", x.speakers(0), -1);
        SaidOnce y = Check.made("thing 1;loud 1");
        people(y, 2, 1, MUTE);
        CHECK.due("not stammered", y.speakers(0), 1);
        SaidOnce z = row(1, 3, 1);
        Check.law(z, "far 1 if known");
        CHECK.due("each as now: 1 knows nothing yet", z.speakers(0), -1);
    }
}
