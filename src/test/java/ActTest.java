/** Promises 14 to 19, 35 to 39 and 44 to 49: acts, trials, the log, and acts undone. */
public final class ActTest {
    private static final Check CHECK = new Check("ActTest");
    private static final Class<? extends Exception> INDEX = IndexOutOfBoundsException.class;
    private static final Class<? extends Exception> ARGUMENT = IllegalArgumentException.class;
    private static final Class<? extends Exception> STATE = IllegalStateException.class;
    private static final Class<? extends Exception> ELEMENT = java.util.NoSuchElementException.class;

    /** A row in which each hears only who sits beside. */
    private static final String ROW = "thing 3;thing 2;person 0 0 ear 0 stammer 0 knows 0;person 1 0 ear 0 stammer 0;"
            + "person 2 0 ear 0 stammer 0;person 3 0 ear 0 stammer 0 knows 1;loud 1;follow 0 0 1";

    public static void main(String[] args) {
        say();
        sayByWhatTheyKnowAhead();
        stammer();
        think();
        away();
        change();
        day();
        term();
        trialAndSpan();
        logRows();
        howAndTeacher();
        chain();
        chainOfMishearing();
        undo();
        undoRemembersTwelve();
        image();
        CHECK.finish();
    }

    private static void say() {
        SaidOnce x = Check.made(ROW);
        CHECK.thrown("who", INDEX, () -> x.say(4, 0, 0));
        CHECK.thrown("thing", INDEX, () -> x.say(0, 2, 0));
        CHECK.thrown("wording", INDEX, () -> x.say(0, 0, 3));
        CHECK.thrown("wording ahead of knowing", INDEX, () -> x.say(1, 1, 2));
        CHECK.thrown("does not know", STATE, () -> x.say(1, 0, 0));
        CHECK.due("no act", x.count(11), 0);
        CHECK.due("no draw", x.seed(1), 1);
        CHECK.due("said", x.say(0, 0, 2), 2);
        CHECK.due("store", x.store(), 4);
        CHECK.due("one draw", x.seed(1), 1103527590);
        CHECK.thrown("twice", STATE, () -> x.say(0, 0, 2));
        CHECK.thrown("twice by another one", STATE, () -> x.say(1, 0, 2));
        CHECK.due("again in another wording", x.say(1, 0, 0), 4);
        CHECK.due("nobody learns", x.say(0, 0, 1), 0);
        x.away(3, true);
        CHECK.thrown("absent", STATE, () -> x.say(3, 1, 0));
        CHECK.due("rows", x.count(10), 3);
        CHECK.due("acts", x.count(11), 4);
    }

    private static void sayByWhatTheyKnowAhead() {
        SaidOnce x = Check.made("thing 2;thing 1;person 0 0 ear 9 stammer 0 knows 0;person 1 0 ear 9 stammer 0;"
                + "person 2 0 ear 9 stammer 0 knows 0");
        Check.law(x, "as 1 if known");
        CHECK.due("taken rightly and as another thing", x.say(0, 0, 0), 6);
        CHECK.due("1 learnt 0", x.learnt(0, 1), 0);
        CHECK.due("2 learnt 1", x.learnt(0, 2), 1);
        CHECK.due("now 1 takes it as 1", x.say(0, 0, 1), 2);
        CHECK.due("1 learnt 1", x.learnt(0, 1), 1);
        CHECK.due("2 knew it", x.learnt(0, 2), -1);
    }

    private static void stammer() {
        // From seed 1 the first draw is 16838: 38 of a hundred.
        SaidOnce x = Check.made("thing 2;person 0 0 ear 0 stammer 38 knows 0;person 1 1 ear 0 stammer 39 knows 0;"
                + "person 2 2 ear 0 stammer 0");
        CHECK.due("just not stammered", x.say(0, 0, 0), 4);
        CHECK.due("log", x.log(0, 4), 0);
        x.undo();
        CHECK.due("just stammered", x.say(1, 0, 0), 0);
        CHECK.due("log", x.log(0, 4), 1);
        CHECK.due("used up", x.store(), 1);
        CHECK.due("2 does not know", x.person(2, 4), 0);
    }

    private static void think() {
        SaidOnce x = Check.made("thing 1;thing 1;thing 1;thing 1;person 0 0 ear 0 stammer 0 knows 3;follow 1 1 0;"
                + "follow 2 3 1;follow 3 3 2");
        CHECK.due("all that follows", x.think(0), 7);
        CHECK.due("nothing more", x.think(0), 0);
        CHECK.due("both are acts", x.count(11), 2);
        x.undo();
        x.undo();
        CHECK.due("undone", x.person(0, 4), 8);
        x.away(0, true);
        CHECK.due("who is absent thinks too", x.think(0), 7);
        CHECK.thrown("none", INDEX, () -> x.think(1));
        CHECK.thrown("none", INDEX, () -> x.think(-1));
    }

    private static void away() {
        SaidOnce x = Check.made(ROW);
        CHECK.due("away", x.away(2, true), true);
        CHECK.due("still away", x.away(2, true), false);
        CHECK.due("absent", x.count(9), 4);
        CHECK.due("back", x.away(2, false), true);
        CHECK.due("was there", x.away(1, false), false);
        CHECK.due("acts", x.count(11), 4);
        CHECK.thrown("none", INDEX, () -> x.away(4, true));
        CHECK.thrown("none", INDEX, () -> x.away(-1, true));
    }

    private static void change() {
        SaidOnce x = Check.made(ROW);
        CHECK.due("distance", x.change(0, 3), 3);
        CHECK.due("x of 0", x.person(0, 0), 3);
        CHECK.due("x of 3", x.person(3, 0), 0);
        CHECK.due("heard by the other neighbour", x.say(0, 0, 0), 4);
        CHECK.thrown("one", ARGUMENT, () -> x.change(1, 1));
        CHECK.thrown("none", INDEX, () -> x.change(4, 4));
        CHECK.due("acts", x.count(11), 2);
    }

    private static void day() {
        SaidOnce x = Check.made(ROW);
        x.away(0, true);
        x.away(3, true);
        CHECK.due("two come back", x.day(), 2);
        CHECK.due("none come back", x.day(), 0);
        CHECK.due("day", x.count(5), 2);
        CHECK.due("absent", x.count(9), 0);
        x.say(0, 0, 0);
        CHECK.due("day of the row", x.log(0, 0), 2);
        x.undo();
        x.undo();
        x.undo();
        CHECK.due("day undone", x.count(5), 0);
        CHECK.due("absent again", x.count(9), 9);
    }

    private static void term() {
        SaidOnce x = Check.made(ROW);
        CHECK.thrown("41", ARGUMENT, () -> x.term(41));
        CHECK.thrown("-1", ARGUMENT, () -> x.term(-1));
        CHECK.due("none", x.term(0), 0);
        CHECK.due("no draw", x.seed(1), 1);
        // Draws from seed 1: 16838, 5758, 10113, 17515, 31051, 5627, 23010, 7419, 16212, 4086.
        // Person 2, thing 0: cannot. Person 1, thing 1: cannot. Person 3, thing 1: said, with 23010 drawn for it.
        CHECK.due("three tried", x.term(3), 1);
        CHECK.due("who", x.log(0, 1), 3);
        CHECK.due("the least wording", x.log(0, 2), 6);
        CHECK.due("who learnt", x.log(0, 3), 4);
        CHECK.due("one act each", x.count(11), 2);
        // Then person 3, thing 0: cannot; the seed has made nine draws.
        CHECK.due("one more", x.term(1), 0);
        int seed = x.seed(1);
        int due = 1;
        for (int k = 0; k < 9; k++) {
            due = 1103515245 * due + 12345;
        }
        CHECK.due("nine draws", seed, due);
        CHECK.due("undo the whole term", x.undo() && x.undo(), true);
        CHECK.due("store", x.store(), 0);
        SaidOnce y = Check.made("thing 3;thing 3;person 0 0 ear 9 stammer 0 knows 0 1;said 0 0;said 0 2");
        CHECK.due("forty", y.term(40), 4);
        CHECK.due("all silent", y.silent(), 3);
        SaidOnce z = Check.made("person 0 0 ear 0 stammer 0");
        CHECK.due("no things", z.term(40), 0);
        CHECK.due("no draws", z.seed(1), 1);
        CHECK.due("yet an act", z.count(11), 1);
    }

    private static void trialAndSpan() {
        SaidOnce x = Check.made(ROW);
        CHECK.due("trial", x.trial(3, -1), 1);
        CHECK.due("who knows 1 then", x.trial(3, 1), 2);
        CHECK.due("who knows 0 then", x.trial(3, 0), 1);
        CHECK.due("nothing left of it", x.store(), 0);
        CHECK.due("nor in the log", x.count(10) + x.count(11), 0);
        CHECK.due("nor in the seed", x.seed(1), 1);
        CHECK.due("nor of who knows", x.thing(1, 2), 8);
        CHECK.thrown("thing ahead of n", INDEX, () -> x.trial(41, 2));
        CHECK.thrown("thing -2", INDEX, () -> x.trial(41, -2));
        CHECK.thrown("n", ARGUMENT, () -> x.trial(41, -1));
        CHECK.thrown("n below 0", ARGUMENT, () -> x.trial(-1, 0));
        CHECK.thrown("span n", ARGUMENT, () -> x.span(41, true));
        CHECK.thrown("span n below 0", ARGUMENT, () -> x.span(-1, false));
        int fewest = 99;
        int most = -1;
        for (int seed = 1; seed <= 6; seed++) {
            x.seed(seed);
            fewest = Math.min(fewest, x.trial(5, -1));
            most = Math.max(most, x.trial(5, -1));
        }
        x.seed(77);
        CHECK.due("unlike", fewest < most, true);
        CHECK.due("fewest", x.span(5, false), fewest);
        CHECK.due("most", x.span(5, true), most);
        CHECK.due("the seed stays", x.seed(77), 77);
        int tried = x.trial(40, -1);
        CHECK.due("the term is as the trial", x.term(40), tried);
    }

    private static void logRows() {
        SaidOnce x = Check.made(ROW);
        CHECK.due("no row", x.log(0, 0), -1);
        x.say(0, 0, 1);
        x.day();
        x.say(3, 1, 1);
        int[][] due = {{1, 3, 7, 4, 0}, {0, 0, 1, 2, 0}};
        for (int ago = 0; ago < 2; ago++) {
            for (int what = 0; what < 5; what++) {
                CHECK.due("row " + ago + " what " + what, x.log(ago, what), due[ago][what]);
            }
        }
        CHECK.due("older than all", x.log(2, 1), -1);
        CHECK.due("below 0", x.log(-1, 1), -1);
        CHECK.thrown("what 5", ELEMENT, () -> x.log(0, 5));
        CHECK.thrown("what -1", ELEMENT, () -> x.log(99, -1));
        CHECK.due("learnt by the latest", x.learnt(0, 2), 1);
        CHECK.due("learnt by the other", x.learnt(1, 1), 0);
        CHECK.due("not learnt", x.learnt(0, 1), -1);
        CHECK.due("no such row", x.learnt(2, 1), -1);
        CHECK.due("no row below 0", x.learnt(-1, 1), -1);
        CHECK.thrown("person", INDEX, () -> x.learnt(0, 4));
        CHECK.thrown("person of no row", INDEX, () -> x.learnt(9, -1));
    }

    private static void howAndTeacher() {
        SaidOnce x = Check.made(ROW);
        CHECK.due("nobody taught", x.teacher(), -1);
        x.say(3, 1, 0);
        CHECK.due("3 taught", x.teacher(), 3);
        x.say(0, 0, 0);
        CHECK.due("0 as much", x.teacher(), 0);
        CHECK.due("how 2 knows 1", x.how(2, 1), 1);
        CHECK.due("how 1 knows 0", x.how(1, 0), 0);
        CHECK.due("by no row", x.how(0, 0), -1);
        x.think(1);
        CHECK.due("by thinking", x.how(1, 1), -1);
        CHECK.thrown("person", INDEX, () -> x.how(4, 0));
        CHECK.thrown("thing", INDEX, () -> x.how(0, 2));
        SaidOnce y = Check.made("thing 1;person 0 0 ear 0 stammer 0 knows 0");
        y.say(0, 0, 0);
        CHECK.due("who spoke to nobody taught nobody", y.teacher(), -1);
    }

    private static void chain() {
        SaidOnce x = Check.made(ROW);
        x.say(0, 0, 0);
        x.say(1, 0, 1);
        x.say(2, 0, 2);
        CHECK.due("rows to 3", x.chain(3, 0, false), 3);
        CHECK.due("begin of 3", x.chain(3, 0, true), 0);
        CHECK.due("rows to 1", x.chain(1, 0, false), 1);
        CHECK.due("own knowing", x.chain(3, 1, false), 0);
        CHECK.due("oneself", x.chain(3, 1, true), 3);
        CHECK.due("not known", x.chain(1, 1, false), 0);
        CHECK.due("nobody", x.chain(1, 1, true), -1);
        CHECK.thrown("person", INDEX, () -> x.chain(4, 0, true));
        CHECK.thrown("thing", INDEX, () -> x.chain(0, -1, true));
    }

    private static void chainOfMishearing() {
        SaidOnce x = Check.made("thing 2;thing 2;thing 1;person 0 0 ear 0 stammer 0 knows 0;person 1 0 ear 0 stammer 0;"
                + "person 2 0 ear 0 stammer 0;loud 1");
        Check.law(x, "as 1 if wording > 0");
        CHECK.due("1 takes 0 as 1", x.say(0, 0, 1), 2);
        CHECK.due("2 takes 1 as 2", x.say(1, 1, 1), 5);
        CHECK.due("two rows", x.chain(2, 2, false), 2);
        CHECK.due("from 0", x.chain(2, 2, true), 0);
        CHECK.due("0 learnt 2 from 1, who had it from 0", x.chain(0, 2, false), 2);
        CHECK.due("0 is at the begin", x.chain(0, 2, true), 0);
    }

    private static void undo() {
        SaidOnce x = Check.made(ROW);
        x.seed(5);
        x.say(0, 0, 0);
        x.seed(9);
        x.change(0, 1);
        x.seed(11);
        Check.tape(x, "bell");
        CHECK.due("undo the change", x.undo(), true);
        CHECK.due("seat", x.person(0, 0), 0);
        CHECK.due("the seed as ahead of it", x.seed(13), 9);
        CHECK.due("the tape stays", x.end(4), true);
        CHECK.due("undo the saying", x.undo(), true);
        CHECK.due("store", x.store(), 0);
        CHECK.due("knows", x.person(1, 4), 0);
        CHECK.due("rows", x.count(10), 0);
        CHECK.due("seed", x.seed(5), 5);
        CHECK.due("no more", x.undo(), false);
        x.say(0, 0, 0);
        CHECK.thrown("wrong text", ARGUMENT, x::school);
        CHECK.due("it leaves the acts", x.count(11), 1);
        CHECK.due("a text", Check.school(x, ""), 2);
        CHECK.due("no act is remembered", x.count(11), 0);
        CHECK.due("nor undone", x.undo(), false);
        CHECK.due("what was said stays", x.store(), 1);
        x.day();
        Check.law(x, "");
        CHECK.due("nor behind a law", x.undo(), false);
    }

    private static void undoRemembersTwelve() {
        SaidOnce x = Check.made(ROW);
        for (int k = 0; k < 15; k++) {
            x.day();
        }
        CHECK.due("twelve", x.count(11), 12);
        for (int k = 0; k < 12; k++) {
            CHECK.due("undo " + k, x.undo(), true);
            CHECK.due("day", x.count(5), 14 - k);
        }
        CHECK.due("no more", x.undo(), false);
        CHECK.due("the day then", x.count(5), 3);
    }

    private static void image() {
        SaidOnce x = Check.made(ROW);
        CHECK.due("no image", x.back(), false);
        Check.law(x, "as 1");
        x.say(0, 0, 0);
        x.seed(17);
        x.image();
        Check.school(x, "thing 4;person 9 9 ear 9 stammer 9 knows 2;follow 2 2 2;loud 9;said 2 0");
        Check.law(x, "as 0;as 0");
        x.day();
        x.say(0, 0, 1);
        Check.tape(x, "bell");
        Check.schoolFault(x, "loud 1;bell");
        Check.tape(x, 1, 2, 3);
        CHECK.due("back", x.back(), true);
        int[] due = {2, 4, 1, 1, 1, 0, 1, 1, 4, 0, 1, 0};
        for (int what = 0; what < due.length; what++) {
            CHECK.due("count " + what + " behind", x.count(what), due[what]);
        }
        CHECK.due("store", x.store(), 1);
        CHECK.due("the law", x.hears(0, 0, 1, 1), 1);
        CHECK.due("the log", x.log(0, 3), 2);
        CHECK.due("what was learnt", x.learnt(0, 1), 1);
        CHECK.due("the fault stays", x.fault(), 7);
        CHECK.due("the tape stays", x.end(3), true);
        CHECK.due("the seed", x.seed(3), 17);
        CHECK.due("no act to undo", x.undo(), false);
        x.say(0, 0, 2);
        CHECK.due("back again", x.back(), true);
        CHECK.due("store again", x.store(), 1);
        x.day();
        x.image();
        CHECK.due("undo behind an image", x.undo(), true);
        CHECK.due("day", x.count(5), 0);
        CHECK.due("the image stays", x.back() && x.count(5) == 1, true);
    }
}
