import java.util.NoSuchElementException;

/** Promises 7 to 13, 20 to 22, 27, 29 to 31 and 42 to 43: what is there, who hears what as what, and sets of it. */
public final class SchoolTest {
    private static final Check CHECK = new Check("SchoolTest");
    private static final Class<? extends Exception> INDEX = IndexOutOfBoundsException.class;
    private static final Class<? extends Exception> ARGUMENT = IllegalArgumentException.class;
    private static final Class<? extends Exception> ELEMENT = NoSuchElementException.class;

    /** A row of four, the last one far away; from 0 and 1 follows 2. */
    private static final String ROW = "thing 2;thing 1;thing 3;person 0 0 ear 1 stammer 0 knows 0;"
            + "person 2 0 ear 0 stammer 5;person 4 0 ear 0 stammer 0 knows 1 2;person 9 8 ear 0 stammer 0;follow 0 1 2";

    public static void main(String[] args) {
        thing();
        sources();
        person();
        rule();
        apart();
        hears();
        lawParts();
        lawJoints();
        audience();
        setsOfThings();
        exam();
        pairs();
        groups();
        between();
        echo();
        CHECK.finish();
    }

    private static void thing() {
        SaidOnce x = Check.made(ROW);
        CHECK.due("wordings", x.thing(2, 0), 3);
        CHECK.due("left", x.thing(2, 1), 3);
        CHECK.due("who knows", x.thing(2, 2), 4);
        x.say(2, 2, 1);
        CHECK.due("left of 3", x.thing(2, 1), 2);
        CHECK.due("who knows now", x.thing(2, 2), 6);
        x.away(1, true);
        CHECK.due("who is absent knows too", x.thing(2, 2), 6);
        CHECK.due("store", x.store(), 1L << 13);
        CHECK.thrown("thing 3", INDEX, () -> x.thing(3, 0));
        CHECK.thrown("thing -1", INDEX, () -> x.thing(-1, 9));
        CHECK.thrown("what 4", ELEMENT, () -> x.thing(0, 4));
        CHECK.thrown("what -1", ELEMENT, () -> x.thing(0, -1));
    }

    private static void sources() {
        SaidOnce x = Check.made(ROW);
        CHECK.due("sources of 2", x.thing(2, 3), 3);
        CHECK.due("no sources", x.thing(0, 3), -1);
        SaidOnce y = Check.made("thing 1;thing 1;thing 1;thing 1;thing 1;follow 1 2 0;follow 3 3 1;follow 3 4 2;follow 0 0 4");
        // From 3 comes 1; with 2 comes 0: 1 and 2 are two, 2 and 3 are two, of these 6 is the least as bits.
        CHECK.due("the least of the fewest", y.thing(0, 3), 6);
        CHECK.due("one is enough", y.thing(1, 3), 8);
        CHECK.due("one by another rule", y.thing(4, 3), 1);
        CHECK.due("chain of rules", y.thing(2, 3), 9);
        SaidOnce z = Check.made("thing 1;thing 1;follow 0 1 0");
        CHECK.due("none of them that one", z.thing(0, 3), -1);
    }

    private static void person() {
        SaidOnce x = Check.made(ROW);
        int[] due = {9, 8, 0, 0, 0, 0, 0, 0};
        for (int what = 0; what < 8; what++) {
            CHECK.due("person 3 what " + what, x.person(3, what), due[what]);
        }
        CHECK.due("stammer", x.person(1, 3), 5);
        CHECK.due("ear", x.person(0, 2), 1);
        CHECK.due("lost by 0", x.person(0, 7), 1);
        CHECK.due("lost by 2", x.person(2, 7), 6);
        x.say(0, 0, 0);
        CHECK.due("lost by 0 when 1 knows it", x.person(0, 7), 0);
        x.away(1, true);
        CHECK.due("lost by 0 when 1 is absent", x.person(0, 7), 1);
        CHECK.due("absent", x.person(1, 5), 1);
        x.away(1, false);
        x.say(2, 1, 0);
        CHECK.due("follows", x.person(1, 6), 7);
        CHECK.due("follows with what one knows", x.person(0, 6), 1);
        CHECK.due("knows", x.person(1, 4), 3);
        CHECK.thrown("person 4", INDEX, () -> x.person(4, 0));
        CHECK.thrown("person -1", INDEX, () -> x.person(-1, 8));
        CHECK.thrown("what 8", ELEMENT, () -> x.person(0, 8));
        CHECK.thrown("what -1", ELEMENT, () -> x.person(0, -1));
    }

    private static void rule() {
        SaidOnce x = Check.made(ROW);
        CHECK.due("first", x.rule(0, 0), 0);
        CHECK.due("second", x.rule(0, 1), 1);
        CHECK.due("third", x.rule(0, 2), 2);
        CHECK.due("none", x.rule(1, 2), -1);
        CHECK.due("none below 0", x.rule(-1, 0), -1);
        CHECK.thrown("what 3", ELEMENT, () -> x.rule(0, 3));
        CHECK.thrown("what 3 of none", ELEMENT, () -> x.rule(7, -1));
    }

    private static void apart() {
        SaidOnce x = Check.made(ROW);
        CHECK.due("apart", x.apart(0, 3), 9);
        CHECK.due("apart", x.apart(3, 2), 8);
        CHECK.thrown("one", ARGUMENT, () -> x.apart(2, 2));
        CHECK.thrown("none", INDEX, () -> x.apart(4, 4));
        CHECK.thrown("none", INDEX, () -> x.apart(0, -1));
    }

    private static void hears() {
        SaidOnce x = Check.made(ROW);
        CHECK.due("near enough", x.hears(0, 0, 1, 1), 0);
        CHECK.due("too far", x.hears(0, 0, 1, 2), -1);
        CHECK.due("nobody needs to know it", x.hears(1, 2, 2, 0), 2);
        Check.law(x, "far 2;near 1 if known;as 1 if whom > 1;as 4 if known");
        CHECK.due("farther", x.hears(0, 0, 0, 2), 1);
        CHECK.due("nearer again for one who knows it", x.hears(0, 2, 0, 2), -1);
        // 1 hears 2 at distance 2, knows 2 later on: 2 and 4 modulo 3.
        CHECK.due("as told", x.hears(2, 2, 0, 1), 2);
        x.say(2, 2, 1);
        CHECK.due("as one takes it who knows", x.hears(2, 2, 0, 1), 0);
        x.away(2, true);
        CHECK.due("absent speaker", x.hears(2, 2, 0, 1), -1);
        CHECK.due("absent hearer", x.hears(1, 2, 0, 2), -1);
        CHECK.thrown("one", ARGUMENT, () -> x.hears(1, 0, 0, 1));
        CHECK.thrown("wording", INDEX, () -> x.hears(1, 0, 2, 1));
        CHECK.thrown("wording below 0", INDEX, () -> x.hears(1, 0, -1, 0));
        CHECK.thrown("thing", INDEX, () -> x.hears(1, 3, 0, 1));
        CHECK.thrown("whom", INDEX, () -> x.hears(1, 0, 0, 4));
        CHECK.thrown("who", INDEX, () -> x.hears(4, 0, 0, 4));
    }

    /** Two people at a distance of 3, the hearer's ear 0, loud 2: heard only where the law makes it one farther. */
    private static void heardIf(String condition, boolean due) {
        SaidOnce x = Check.made("thing 1;thing 4;person 0 0 ear 8 stammer 0 knows 1;person 9 9 ear 0 stammer 0;"
                + "person 3 1 ear 0 stammer 0");
        Check.law(x, "far 1 if " + condition);
        CHECK.due("heard if " + condition, x.hears(0, 1, 3, 2), due ? 1 : -1);
    }

    private static void lawParts() {
        heardIf("thing < 2 and thing > 0", true);
        heardIf("wording < 4 and wording > 2", true);
        heardIf("who < 1", true);
        heardIf("who > 0", false);
        heardIf("whom > 1 and whom < 3", true);
        heardIf("apart > 2 and apart < 4", true);
        heardIf("ear < 1", true);
        heardIf("day < 1", true);
        heardIf("day > 0", false);
        heardIf("known", false);
        heardIf("not known", true);
        heardIf("thing + wording + whom > 5", true);
        heardIf("thing + wording + whom > 6", false);
        heardIf("5 < thing + wording + whom", true);
        heardIf("6 < thing + wording + whom", false);
        heardIf("999 + 999 > 999 + 998", true);
        heardIf("999 + 999 < 999 + 998", false);
        SaidOnce x = Check.made("thing 1;person 0 0 ear 0 stammer 0;person 0 4 ear 0 stammer 0");
        Check.law(x, "far 1 if day > 0;far 1 if day > 1;near 1 if day > 2");
        int[] due = {-1, -1, 0, -1};
        for (int k = 0; k < due.length; k++) {
            CHECK.due("on day " + k, x.hears(0, 0, 0, 1), due[k]);
            x.day();
        }
    }

    private static void lawJoints() {
        String yes = "1<2";
        String no = "2<1";
        heardIf(yes + " or " + yes + " and " + no, true);
        heardIf("(" + yes + " or " + yes + ") and " + no, false);
        heardIf(no + " and " + yes + " or " + yes, true);
        heardIf(no + " and (" + yes + " or " + yes + ")", false);
        heardIf("not " + no + " and " + yes, true);
        heardIf("not " + yes + " or " + yes, true);
        heardIf("not (" + yes + " or " + yes + ")", false);
        heardIf("not (" + no + " and " + yes + ")", true);
        heardIf("not not " + yes, true);
        heardIf("not not not (" + no + ")", true);
        heardIf("not (not (not " + yes + " or " + no + ") and " + yes + ")", false);
        heardIf(no + " or " + no + " or " + no + " and " + yes, false);
        heardIf(no + " or (" + no + " or (" + no + " or (" + no + " or (" + no + " or (" + no + " or 1+1+1<2+2)))))", true);
    }

    private static void audience() {
        SaidOnce x = Check.made(ROW);
        CHECK.due("of 1", x.audience(1, 0, 0, false), 5);
        CHECK.due("of 3", x.audience(3, 0, 0, false), 0);
        Check.law(x, "as 1 if whom < 1");
        CHECK.due("all", x.audience(1, 0, 0, false), 5);
        CHECK.due("right", x.audience(1, 0, 0, true), 4);
        CHECK.due("right by going round", x.hears(1, 2, 0, 0), 0);
        Check.law(x, "as 3");
        CHECK.due("right all round", x.audience(1, 0, 0, true), 5);
        x.away(1, true);
        CHECK.due("of who is absent", x.audience(1, 0, 0, false), 0);
        CHECK.thrown("person", INDEX, () -> x.audience(-1, 0, 0, true));
        CHECK.thrown("thing", INDEX, () -> x.audience(0, -1, 0, true));
        CHECK.thrown("wording", INDEX, () -> x.audience(0, 1, 1, true));
    }

    private static void setsOfThings() {
        SaidOnce x = Check.made(ROW);
        CHECK.due("sayable", x.sayable(), 7);
        CHECK.due("dumb", x.dumb(), 10);
        CHECK.due("silent", x.silent(), 0);
        x.say(2, 1, 0);
        CHECK.due("silent then", x.silent(), 2);
        CHECK.due("sayable then", x.sayable(), 5);
        CHECK.due("dumb then: 1 knows a silent thing alone", x.dumb(), 10);
        x.away(2, true);
        CHECK.due("sayable without 2", x.sayable(), 1);
        CHECK.due("dumb with 2", x.dumb(), 14);
        CHECK.due("silent does not ask who is there", x.silent(), 2);
        x.say(0, 0, 0);
        x.say(0, 0, 1);
        CHECK.due("sayable no more", x.sayable(), 0);
        CHECK.due("all dumb", x.dumb(), 15);
        CHECK.due("silent at last", x.silent(), 3);
    }

    private static void exam() {
        SaidOnce x = Check.made(ROW);
        CHECK.due("nothing follows", x.exam(), 0);
        x.say(0, 0, 0);
        x.say(2, 1, 0);
        CHECK.due("2 follows for 1", x.exam(), 4);
        x.away(1, true);
        CHECK.due("1 is absent", x.exam(), 0);
        x.away(1, false);
        x.say(2, 2, 2);
        CHECK.due("2 was said", x.exam(), 0);
        SaidOnce y = Check.made("thing 1;thing 1;person 0 0 ear 0 stammer 0 knows 0;follow 0 0 1");
        CHECK.due("one thing twice", y.exam(), 2);
        y.think(0);
        CHECK.due("known now", y.exam(), 0);
    }

    private static void pairs() {
        SaidOnce x = Check.made(ROW);
        CHECK.due("alike", x.alike(0, 1), 6);
        CHECK.due("ask", x.ask(0, 1), 0);
        CHECK.due("unlike in all", x.alike(0, 2), 0);
        CHECK.due("alike in all", x.alike(1, 3), 7);
        CHECK.due("nothing to ask", x.ask(1, 3), -1);
        CHECK.due("ask 1", x.ask(2, 3), 1);
        CHECK.thrown("alike one", ARGUMENT, () -> x.alike(1, 1));
        CHECK.thrown("alike none", INDEX, () -> x.alike(4, 4));
        CHECK.thrown("ask one", ARGUMENT, () -> x.ask(1, 1));
        CHECK.thrown("ask none", INDEX, () -> x.ask(1, -1));
    }

    private static void groups() {
        SaidOnce x = Check.made(ROW);
        CHECK.due("groups", x.groups(false), 3);
        CHECK.due("most", x.groups(true), 2);
        x.say(0, 0, 0);
        CHECK.due("groups then", x.groups(false), 3);
        x.away(0, true);
        CHECK.due("absent ones too", x.groups(true), 2);
    }

    private static void between() {
        SaidOnce x = Check.made(ROW);
        CHECK.due("0 to 1", x.between(0, 1), 1);
        CHECK.due("0 to 2", x.between(0, 2), 0);
        CHECK.due("2 to 1", x.between(2, 1), 6);
        CHECK.due("1 knows nothing", x.between(1, 0), 0);
        Check.law(x, "as 1 if wording > 1;as 2 if wording > 0 and wording < 2");
        // Of 2: wording 0 as 2, wording 1 as 1, wording 2 as 0; of 1: as 1.
        CHECK.due("2 to 1 by wordings", x.between(2, 1), 7);
        x.say(2, 2, 2);
        CHECK.due("less than that when it was said", x.between(2, 1), 6);
        x.away(2, true);
        CHECK.due("absent", x.between(2, 1), 0);
        CHECK.thrown("one", ARGUMENT, () -> x.between(2, 2));
        CHECK.thrown("none", INDEX, () -> x.between(2, 4));
    }

    private static void echo() {
        SaidOnce x = Check.made(ROW);
        Check.law(x, "far 9;as 1 if whom > 1;as 1 if whom > 2");
        // By 1: taken by 0 as 0, by 2 as 1, by 3 as 2.
        CHECK.due("unlike", x.echo(1, 0, 0, false), 3);
        CHECK.due("the least of several", x.echo(1, 0, 0, true), 0);
        CHECK.due("the least of several going round", x.echo(1, 2, 0, true), 0);
        Check.law(x, "far 9;as 1 if whom > 1");
        CHECK.due("two take it so", x.echo(1, 0, 0, true), 1);
        CHECK.due("unlike two", x.echo(1, 0, 0, false), 2);
        x.away(1, true);
        CHECK.due("none", x.echo(1, 0, 0, false), 0);
        CHECK.due("no most", x.echo(1, 0, 0, true), -1);
        CHECK.thrown("person", INDEX, () -> x.echo(4, 0, 0, true));
        CHECK.thrown("wording", INDEX, () -> x.echo(0, 0, 2, true));
        CHECK.thrown("thing", INDEX, () -> x.echo(0, 3, 0, true));
    }
}
