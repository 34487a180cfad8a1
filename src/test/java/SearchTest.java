/** Promises 23 to 26, 28, 32 to 34, 40 and 41: plans, who is kept from what, seats, games and whom to call on. */
public final class SearchTest {
    private static final Check CHECK = new Check("SearchTest");
    private static final Class<? extends Exception> INDEX = IndexOutOfBoundsException.class;
    private static final Class<? extends Exception> ARGUMENT = IllegalArgumentException.class;

    /** A row in which each hears only who sits beside; 0 knows the first thing. */
    private static final String ROW = "person 0 0 ear 0 stammer 0 knows 0;person 1 0 ear 0 stammer 0;"
            + "person 2 0 ear 0 stammer 0;person 3 0 ear 0 stammer 0;loud 1";

    public static void main(String[] args) {
        plan();
        planByWordings();
        planTakesTheFirst();
        planOfNobody();
        kept();
        seats();
        what();
        last();
        keep();
        call();
        spot();
        speakers();
        CHECK.finish();
    }

    private static void plan() {
        SaidOnce x = Check.made("thing 3;" + ROW);
        CHECK.due("one behind another", x.plan(0, false), 3);
        CHECK.due("0 begins", x.plan(0, true), 0);
        x.say(0, 0, 0);
        CHECK.due("1 goes on", x.plan(0, true), 11);
        CHECK.due("two more", x.plan(0, false), 2);
        x.say(0, 0, 1);
        CHECK.due("one wording is too few", x.plan(0, false), -1);
        CHECK.due("no first", x.plan(0, true), -1);
        x.away(3, true);
        CHECK.due("without 3", x.plan(0, false), 1);
        CHECK.due("1 says the last wording", x.plan(0, true), 12);
        x.away(2, true);
        CHECK.due("all know", x.plan(0, false), 0);
        CHECK.due("none is needed", x.plan(0, true), -1);
        CHECK.thrown("thing", INDEX, () -> x.plan(1, true));
        CHECK.thrown("thing", INDEX, () -> x.plan(-1, false));
        SaidOnce y = Check.made("thing 6;" + ROW, "person 4 0 ear 0 stammer 100;person 5 0 ear 0 stammer 100;"
                + "person 6 0 ear 0 stammer 100");
        CHECK.due("six wordings, nobody stammers", y.plan(0, false), 6);
        Check.school(y, "person 7 0 ear 0 stammer 0");
        CHECK.due("seven would be needed", y.plan(0, false), -1);
    }

    private static void planByWordings() {
        SaidOnce x = Check.made("thing 3;thing 1;" + ROW);
        // Wording 2 goes far, but not to 2; wording 0 is mistaken.
        Check.law(x, "far 9 if wording > 1 and (whom < 2 or whom > 2);as 1 if wording < 1");
        CHECK.due("two sayings", x.plan(0, false), 2);
        // 0 tells 1 in wording 1, and 1 tells 2 and 3 in wording 2; the other way round is a plan too, but a later one.
        CHECK.due("the far one is not the first", x.plan(0, true), 1);
        x.say(0, 0, 2);
        CHECK.due("the rest", x.plan(0, false), 1);
        CHECK.due("1 says it", x.plan(0, true), 11);
    }

    private static void planTakesTheFirst() {
        SaidOnce x = Check.made("thing 4;person 9 9 ear 0 stammer 0 knows 0;person 0 0 ear 0 stammer 0 knows 0;"
                + "person 1 0 ear 0 stammer 0;person 2 0 ear 0 stammer 0;person 9 8 ear 0 stammer 0;loud 1");
        // 1 to 2, 2 to 3, and 0 to 4: the order is free but for 2 behind 1.
        CHECK.due("three", x.plan(0, false), 3);
        CHECK.due("the least begins", x.plan(0, true), 0);
        x.say(0, 0, 3);
        CHECK.due("two", x.plan(0, false), 2);
        CHECK.due("now 1, in the least wording", x.plan(0, true), 10);
        Check.law(x, "near 5 if wording < 1");
        CHECK.due("that is not heard in wording 0", x.plan(0, true), 11);
        CHECK.due("one knows it already: nothing known matters", x.plan(0, false), 2);
    }

    private static void planOfNobody() {
        SaidOnce x = Check.made("thing 1");
        CHECK.due("nobody there", x.plan(0, false), 0);
        CHECK.due("none needed", x.plan(0, true), -1);
        Check.school(x, "person 0 0 ear 0 stammer 0");
        CHECK.due("nobody knows", x.plan(0, false), -1);
        x.away(0, true);
        CHECK.due("nobody not absent", x.plan(0, false), 0);
        Check.school(x, "person 1 0 ear 0 stammer 0 knows 0;absent 1");
        x.away(0, false);
        CHECK.due("who knows is absent", x.plan(0, false), -1);
    }

    private static void kept() {
        SaidOnce x = Check.made("thing 1;" + ROW);
        CHECK.due("0 or 1 or 2 away", x.kept(3, 0), 1);
        CHECK.due("0 knows", x.kept(0, 0), -2);
        Check.school(x, "person 9 9 ear 0 stammer 0 knows 0;person 9 8 ear 0 stammer 0");
        CHECK.due("only 4 is near", x.kept(5, 0), 16);
        x.say(0, 0, 0);
        CHECK.due("what is in the store is said again", x.kept(2, 0), 2);
        x.away(1, true);
        CHECK.due("never as it is", x.kept(2, 0), 0);
        x.away(2, true);
        x.away(1, false);
        CHECK.due("who is absent learns nothing", x.kept(2, 0), 0);
        CHECK.due("2 who is absent tells nothing", x.kept(3, 0), 0);
        CHECK.thrown("person", INDEX, () -> x.kept(6, 0));
        CHECK.thrown("thing", INDEX, () -> x.kept(0, 1));
        SaidOnce y = Check.made("thing 2;thing 1;person 0 0 ear 0 stammer 100 knows 0;person 0 1 ear 0 stammer 0;"
                + "person 0 2 ear 0 stammer 0;person 1 2 ear 0 stammer 0 knows 0;person 1 1 ear 0 stammer 0;"
                + "person 2 2 ear 9 stammer 0;loud 1");
        // 5 hears all: both who know it must be away.
        CHECK.due("two must be away", y.kept(5, 0), 9);
        Check.law(y, "as 1 if who < 1;as 1 if wording < 1 and who > 2");
        CHECK.due("0 is mistaken, and 3 in one wording", y.kept(5, 0), 8);
        Check.law(y, "as 1");
        CHECK.due("all are mistaken", y.kept(5, 0), 0);
    }

    private static void seats() {
        SaidOnce x = Check.made("thing 2;thing 1;person 0 0 ear 0 stammer 0 knows 0;person 5 5 ear 0 stammer 0;"
                + "person 5 6 ear 0 stammer 0;person 6 5 ear 0 stammer 0;person 9 0 ear 0 stammer 0;loud 1");
        // At 5 5 two are beside 0, and nowhere more.
        CHECK.due("0 sits where 1 did", x.seats(0, 0, 0, false), 1);
        CHECK.due("two hear it", x.seats(0, 0, 0, true), 2);
        CHECK.due("no change is better", x.seats(1, 0, 0, false), -1);
        CHECK.due("two as now", x.seats(1, 1, 0, true), 2);
        CHECK.due("4 changes with the least", x.seats(4, 0, 1, false), 14);
        CHECK.due("seats stay", x.person(0, 0) + x.person(4, 0), 9);
        x.away(1, true);
        CHECK.due("changing with one who is absent", x.seats(0, 0, 0, false), 1);
        CHECK.due("the seat counts", x.seats(0, 0, 0, true), 2);
        x.away(0, true);
        CHECK.due("absent", x.seats(0, 0, 0, false), -1);
        CHECK.due("nobody hears", x.seats(0, 0, 0, true), 0);
        CHECK.thrown("who", INDEX, () -> x.seats(5, 0, 0, true));
        CHECK.thrown("thing", INDEX, () -> x.seats(0, 2, 0, true));
        CHECK.thrown("wording", INDEX, () -> x.seats(0, 1, 1, true));
    }

    private static void what() {
        SaidOnce x = Check.made("thing 2;thing 3;" + ROW);
        Check.law(x, "far 1 if wording > 0;as 1 if whom > 1");
        // By 1: wording 0 is heard by 0 and 2, the other ones by 3 too; 2 and 3 take it as the other thing.
        Check.tape(x, 0, 255, 1, 255);
        CHECK.due("wording 0", x.what(1), 1);
        Check.tape(x, 0, 0, 1, 1);
        CHECK.due("wording 1, one's own byte counts for nothing", x.what(1), 2);
        Check.tape(x, 1, 255, 0, 0);
        CHECK.due("two of the other thing", x.what(1), 3 << 7);
        x.away(0, true);
        teach(x);
        x.say(1, 0, 1);
        Check.tape(x, 255, 255, 1, 1);
        CHECK.due("in the store or not", x.what(1), 2);
        CHECK.due("the tape is used up", x.end(1), false);
        Check.tape(x, 255, 255, 1);
        CHECK.thrown("too few bytes", ARGUMENT, () -> x.what(1));
        Check.tape(x, 255, 255, 1, 1, 1);
        CHECK.thrown("too many bytes", ARGUMENT, () -> x.what(1));
        Check.tape(x, 255, 2, 1, 1);
        CHECK.thrown("a byte that is no thing", ARGUMENT, () -> x.what(1));
        Check.tape(x, 255, 2, 1, 254);
        CHECK.thrown("no such person, the tape wrong too", INDEX, () -> x.what(4));
        CHECK.due("used up by that too", x.end(1), false);
        CHECK.thrown("an empty tape", ARGUMENT, () -> x.what(1));
        x.away(1, true);
        Check.tape(x, 255, 255, 255, 255);
        CHECK.due("absent: all come as nothing", x.what(1), 3 | 7 << 6);
    }

    /** 0 comes back to say thing 0 to 1, and goes again. */
    private static void teach(SaidOnce x) {
        x.away(0, false);
        x.say(0, 0, 0);
        x.away(0, true);
    }

    private static void last() {
        SaidOnce x = Check.made("thing 2;thing 3;thing 4;" + ROW);
        CHECK.due("the one thing", x.last(), 2);
        Check.law(x, "as 1 if wording > 0 and thing < 1");
        CHECK.due("thing 1 comes about", x.last(), 5);
        Check.law(x, "as 1 if wording > 0 and known");
        CHECK.due("all come about by those who know", x.last(), 9);
        x.say(0, 0, 1);
        CHECK.due("wording 1 is used up", x.last(), 1);
        x.away(0, true);
        CHECK.due("who heard it goes on", x.last(), 1);
        x.away(1, true);
        CHECK.due("nobody there knows anything", x.last(), 0);
        CHECK.due("nothing was learnt", x.thing(1, 2), 0);
        SaidOnce y = Check.made("thing 1;" + ROW, "thing 5;follow 0 0 1");
        CHECK.due("nobody thinks", y.last(), 1);
    }

    private static void keep() {
        SaidOnce x = Check.made("thing 3;thing 2;thing 3;person 0 0 ear 0 stammer 0 knows 0 1;"
                + "person 9 0 ear 0 stammer 0 knows 0 1;person 9 9 ear 0 stammer 0 knows 0 2;person 0 9 ear 0 stammer 0");
        CHECK.due("five in turns", x.margin(0, 1), 1);
        CHECK.due("the first one says the last", x.keeps(0, 1), true);
        CHECK.due("three in turns, two and three alone", x.margin(0, 2), 0);
        CHECK.due("evenly: who begins loses", x.keeps(0, 2), false);
        CHECK.due("the other way", x.margin(2, 0), 2);
        CHECK.due("wins", x.keeps(2, 0), true);
        x.say(0, 0, 0);
        CHECK.due("two in turns", x.margin(0, 2), -1);
        CHECK.due("loses", x.keeps(0, 2), false);
        CHECK.due("nothing to say", x.keeps(3, 0), false);
        CHECK.due("against nothing", x.margin(0, 3), 4);
        CHECK.due("nothing against it", x.margin(3, 0), -4);
        CHECK.thrown("one", ARGUMENT, () -> x.keeps(1, 1));
        CHECK.thrown("none", INDEX, () -> x.keeps(4, 4));
        CHECK.thrown("margin of one", ARGUMENT, () -> x.margin(1, 1));
        CHECK.thrown("margin of none", INDEX, () -> x.margin(0, -1));
    }

    private static void call() {
        SaidOnce x = Check.made("thing 2;thing 1;person 0 0 ear 0 stammer 60 knows 0;person 1 0 ear 0 stammer 0;"
                + "person 2 0 ear 0 stammer 20 knows 0;person 3 0 ear 0 stammer 0;person 0 1 ear 0 stammer 0;loud 1");
        // 0 is heard by 1 and 4, of a hundred 40 times two; 2 by 1 and 3, 80 times two.
        CHECK.due("2", x.call(0, false), 2);
        CHECK.due("160", x.call(0, true), 160);
        Check.law(x, "as 1 if wording < 1 and who > 1");
        CHECK.due("in the best wording", x.call(0, true), 160);
        x.say(2, 0, 1);
        CHECK.due("1, who knows it now", x.call(0, false), 1);
        CHECK.due("1 is heard by 4", x.call(0, true), 100);
        x.away(1, true);
        CHECK.due("then 0", x.call(0, false), 0);
        CHECK.due("40 times one, 4", x.call(0, true), 40);
        x.away(0, true);
        CHECK.due("the others are heard by nobody new: the least", x.call(0, false), 2);
        CHECK.due("nothing", x.call(0, true), 0);
        x.day();
        x.say(0, 0, 0);
        CHECK.due("none left", x.call(0, false), -1);
        CHECK.due("nothing", x.call(0, true), 0);
        CHECK.due("nobody knows 1", x.call(1, false), -1);
        CHECK.due("nothing of it", x.call(1, true), 0);
        CHECK.thrown("thing", INDEX, () -> x.call(2, true));
        SaidOnce y = Check.made("thing 2;person 9 9 ear 0 stammer 0 knows 0;person 0 0 ear 0 stammer 100 knows 0;"
                + "person 1 1 ear 0 stammer 0");
        CHECK.due("of several at nothing the least", y.call(0, false), 0);
        CHECK.due("nothing", y.call(0, true), 0);
    }

    private static void spot() {
        SaidOnce x = Check.made("thing 1;person 5 5 ear 0 stammer 0 knows 0;person 0 0 ear 0 stammer 0;"
                + "person 4 4 ear 0 stammer 0;loud 1");
        CHECK.due("beside 5 5, 4 4 is another one's", x.spot(1, 0, 0, 0), 45);
        CHECK.due("one's own seat", x.spot(2, 0, 0, 0), 44);
        CHECK.due("seats stay", x.person(1, 0) + x.person(2, 0), 4);
        Check.law(x, "near 1");
        CHECK.due("none", x.spot(1, 0, 0, 0), -1);
        Check.law(x, "far 9;near 9 if apart < 5");
        CHECK.due("not too near", x.spot(1, 0, 0, 0), 0);
        CHECK.due("0 0 is another one's", x.spot(2, 0, 0, 0), 1);
        CHECK.due("or just beside", x.spot(0, 1, 0, 0), 1);
        x.away(0, true);
        CHECK.due("absent", x.spot(1, 0, 0, 0), -1);
        CHECK.thrown("one", ARGUMENT, () -> x.spot(1, 1, 0, 0));
        CHECK.thrown("wording of one", INDEX, () -> x.spot(1, 1, 0, 1));
        CHECK.thrown("person", INDEX, () -> x.spot(3, 3, 0, 0));
        CHECK.thrown("thing", INDEX, () -> x.spot(0, 1, 1, 0));
    }

    private static void speakers() {
        SaidOnce x = Check.made("thing 2;thing 1;person 0 0 ear 0 stammer 0 knows 0;person 1 0 ear 0 stammer 0;"
                + "person 2 0 ear 0 stammer 0 knows 0;person 3 0 ear 0 stammer 0;person 4 0 ear 0 stammer 0 knows 0;loud 1");
        CHECK.due("2 is heard by both", x.speakers(0), 4);
        x.away(2, true);
        CHECK.due("two speakers", x.speakers(0), 17);
        x.away(0, true);
        CHECK.due("1 hears nobody", x.speakers(0), -1);
        x.away(1, true);
        CHECK.due("4 for 3", x.speakers(0), 16);
        x.away(3, true);
        CHECK.due("all who are there know it", x.speakers(0), 0);
        x.day();
        Check.law(x, "as 1 if wording < 1 and whom < 2;as 1 if wording > 0 and whom > 1");
        CHECK.due("each in any wordings", x.speakers(0), 4);
        x.say(4, 0, 0);
        CHECK.due("3 knows it now, 1 hears wording 1", x.speakers(0), 1);
        CHECK.due("nobody knows 1", x.speakers(1), -1);
        CHECK.thrown("thing", INDEX, () -> x.speakers(2));
    }
}
