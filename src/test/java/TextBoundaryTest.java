/** Promises 1 to 6 and the texts: a test for each sentence of the document that names a boundary case there. */
public final class TextBoundaryTest {
    private static final Check CHECK = new Check("TextBoundaryTest");
    private static final Class<? extends Exception> ARGUMENT = IllegalArgumentException.class;
    private static final Class<? extends Exception> FULL = UnsupportedOperationException.class;
    private static final Class<? extends Exception> INDEX = IndexOutOfBoundsException.class;

    /** What the faults of single lines are tried behind: two things, of two wordings and of one, and a person. */
    private static final String BEFORE = "thing 2;thing 1;person 9 9 ear 1 stammer 1";

    public static void main(String[] args) {
        newObjectIsEmpty();
        nothingIsThereToAsk();
        feedPutsTheHighestFirst();
        feedComesBehind();
        feedWouldHaveMore();
        endKeepsTheFirst();
        endOfFewerOrBelowNought();
        schoolUsesTheTapeUp();
        schoolCountsTexts();
        thirteenthText();
        lawCountsLines();
        lawUsesTheTapeUp();
        lawInPlaceOfTheOneBefore();
        faultAheadOfAnyAndWithout();
        faultOfTheLatest();
        emptyOrBlanksAlone();
        blanksBetween();
        blankIsThirtyTwoAlone();
        wordsAsLongAsTheyGoOn();
        wordThatIsNone();
        wordsLetterByLetter();
        numbersOfOneToThreeDigits();
        numbersOfTheSchool();
        numbersOfTheLaw();
        schoolTextsLength();
        lawTextsLength();
        schoolLinesTooMany();
        lawLinesTooMany();
        thingsTooMany();
        peopleTooMany();
        rulesTooMany();
        seatNobodyHas();
        thereByThen();
        thingsKnown();
        rulesOfOneThing();
        sayingsSaid();
        loudAtFirst();
        absentNotAtFirst();
        ofAWrongTextNothingStays();
        ofAWrongLawNothingStays();
        sixDeep();
        seventhDeep();
        notWithinOneAnother();
        depthOfAWrongText();
        CHECK.finish();
    }

    private static void schoolFault(String text, int due) {
        SaidOnce x = Check.made(BEFORE);
        String was = Check.digest(x);
        CHECK.due("school fault of <" + text + ">", Check.schoolFault(x, text), due);
        CHECK.due("texts after <" + text + ">", x.count(3), due == -1 ? 2 : 1);
        CHECK.due("nothing stays of a wrong <" + text + ">", due == -1 || Check.digest(x).equals(was), true);
    }

    private static void lawFault(String text, int due) {
        SaidOnce x = Check.made(BEFORE);
        CHECK.due("law fault of <" + text + ">", Check.lawFault(x, text), due);
        CHECK.due("a law after <" + text + ">", x.count(4) >= 0, due == -1);
    }

    private static void fault(boolean school, String text, int due) {
        if (school) {
            schoolFault(text, due);
        } else {
            lawFault(text, due);
        }
    }

    // Promise 1.

    private static void newObjectIsEmpty() {
        CHECK.sentence("Promise 1: an empty school");
        SaidOnce x = new SaidOnce();
        int[] counts = {0, 0, 0, 0, -1, 0, 2, 0, 0, 0, 0, 0};
        for (int what = 0; what < counts.length; what++) {
            CHECK.due("count " + what, x.count(what), counts[what]);
        }
        CHECK.due("tape", Check.tapeHas(x, 0), true);
        CHECK.due("fault", x.fault(), -1);
        CHECK.due("store", x.store(), 0);
        CHECK.due("rule", x.rule(0, 0), -1);
        CHECK.due("sets", x.sayable() | x.dumb() | x.silent() | x.exam(), 0);
        CHECK.due("last", x.last(), 0);
        CHECK.due("groups", x.groups(false), 0);
        CHECK.due("most of a group", x.groups(true), 0);
        CHECK.due("teacher", x.teacher(), -1);
        CHECK.due("log", x.log(0, 2), -1);
        CHECK.due("fewest of terms", x.span(40, false), 0);
        CHECK.due("most of terms", x.span(40, true), 0);
        CHECK.due("trial", x.trial(40, -1), 0);
        CHECK.due("undo", x.undo(), false);
        CHECK.due("back", x.back(), false);
        CHECK.due("seed", x.seed(1), 1);
        CHECK.due("NONE", SaidOnce.NONE, -1);
    }

    private static void nothingIsThereToAsk() {
        CHECK.sentence("IndexOutOfBoundsException: there is no such THING, WORDING, PERSON");
        SaidOnce x = new SaidOnce();
        CHECK.thrown("thing", INDEX, () -> x.thing(0, 0));
        CHECK.thrown("person", INDEX, () -> x.person(0, 0));
        CHECK.thrown("apart", INDEX, () -> x.apart(0, 0));
        CHECK.thrown("hears", INDEX, () -> x.hears(0, 0, 0, 0));
        CHECK.thrown("say", INDEX, () -> x.say(0, 0, 0));
        CHECK.thrown("think", INDEX, () -> x.think(0));
        CHECK.thrown("what", INDEX, () -> x.what(0));
        CHECK.thrown("trial of a thing", INDEX, () -> x.trial(0, 0));
        CHECK.thrown("learnt", INDEX, () -> x.learnt(0, 0));
        CHECK.thrown("echo", INDEX, () -> x.echo(0, 0, 0, false));
        CHECK.thrown("spot", INDEX, () -> x.spot(0, 0, 0, 0));
    }

    // Promises 2 and 3.

    private static void feedPutsTheHighestFirst() {
        CHECK.sentence("Promise 2: twenty bytes come behind the TAPE, of each number the highest first");
        for (int k = 0; k < 20; k++) {
            int[] five = {0x20202020, 0x20202020, 0x20202020, 0x20202020, 0x20202020};
            five[k / 4] |= 0xff << 24 - 8 * (k % 4);
            SaidOnce x = new SaidOnce();
            CHECK.due("feed", x.feed(five[0], five[1], five[2], five[3], five[4]), 20);
            CHECK.thrown("a wrong byte at " + k, ARGUMENT, x::school);
            CHECK.due("the wrong byte", x.fault(), k);
        }
    }

    private static void feedComesBehind() {
        CHECK.sentence("Promise 2: twenty bytes come behind the TAPE: how many it has");
        SaidOnce x = new SaidOnce();
        CHECK.due("of none", x.feed(0x6c6f7564, 0x20370000, 0, 0, 0), 20);
        CHECK.due("six stay", x.end(6), true);
        CHECK.due("behind six", x.feed(0x3b6c6f75, 0x64203320, 0x20202020, 0x20202020, 0x20202020), 26);
        CHECK.due("both are read", x.school(), 1);
        CHECK.due("loud", x.count(6), 3);
    }

    private static void feedWouldHaveMore() {
        CHECK.sentence("Promise 2: NONE, and none come, if it would have more than 400");
        SaidOnce x = new SaidOnce();
        int blanks = 0x20202020;
        for (int n = 20; n <= 400; n += 20) {
            CHECK.due("feed", x.feed(blanks, blanks, blanks, blanks, blanks), n);
        }
        CHECK.due("at 400", x.feed(-1, -1, -1, -1, -1), -1);
        CHECK.due("400 stay", Check.tapeHas(x, 400), true);
        CHECK.due("end", x.end(399), true);
        CHECK.due("at 399", x.feed(-1, -1, -1, -1, -1), -1);
        CHECK.due("end", x.end(381), true);
        CHECK.due("at 381", x.feed(-1, -1, -1, -1, -1), -1);
        CHECK.due("381 stay", Check.tapeHas(x, 381), true);
        CHECK.due("none of them came", x.school(), 1);
        for (int n = 20; n <= 380; n += 20) {
            x.feed(blanks, blanks, blanks, blanks, blanks);
        }
        CHECK.due("at 380", x.feed(blanks, blanks, blanks, blanks, -1), 400);
        CHECK.due("the last byte is one", Check.outcome(x::school).contains("IllegalArgument"), true);
        CHECK.due("it is at", x.fault(), 396);
    }

    private static void endKeepsTheFirst() {
        CHECK.sentence("Promise 3: the TAPE has its first n bytes alone: true");
        SaidOnce x = new SaidOnce();
        CHECK.due("none of none", x.end(0), true);
        Check.tape(x, "loud 7loud");
        CHECK.due("as many as there are", x.end(10), true);
        CHECK.due("still ten", Check.tapeHas(x, 10), true);
        CHECK.due("six", x.end(6), true);
        CHECK.due("six alone", Check.tapeHas(x, 6), true);
        CHECK.due("they are the first", x.school() == 1 && x.count(6) == 7, true);
        Check.tape(x, "bell");
        CHECK.due("none", x.end(0), true);
        CHECK.due("none alone", Check.tapeHas(x, 0), true);
        CHECK.due("an empty text", x.school(), 2);
    }

    private static void endOfFewerOrBelowNought() {
        CHECK.sentence("Promise 3: false, and nothing happens, if it has fewer, or n is below 0");
        SaidOnce x = new SaidOnce();
        CHECK.due("1 of none", x.end(1), false);
        Check.tape(x, "loud 7");
        for (int n : new int[] {7, 20, 400, 401, Integer.MAX_VALUE, -1, -6, Integer.MIN_VALUE}) {
            CHECK.due("end " + n, x.end(n), false);
        }
        CHECK.due("nothing happened", Check.tapeHas(x, 6), true);
        CHECK.due("the text stays", x.school() == 1 && x.count(6) == 7, true);
    }

    // Promises 4 to 6.

    private static void schoolUsesTheTapeUp() {
        CHECK.sentence("Promise 4: uses the TAPE up");
        SaidOnce x = Check.made("loud 3");
        CHECK.due("by a right text", Check.tapeHas(x, 0), true);
        Check.tape(x, "bell");
        CHECK.thrown("wrong", ARGUMENT, x::school);
        CHECK.due("by a wrong text", Check.tapeHas(x, 0), true);
        CHECK.due("the next is an empty text", x.school(), 2);
    }

    private static void schoolCountsTexts() {
        CHECK.sentence("Promise 4: how many texts there are");
        SaidOnce x = new SaidOnce();
        for (int n = 1; n <= 12; n++) {
            CHECK.due("a wrong text is none", Check.schoolFault(x, "bell"), 0);
            CHECK.due("texts", x.count(3), n - 1);
            CHECK.due("a text", Check.school(x, n % 2 == 0 ? "" : "loud 1"), n);
            CHECK.due("texts", x.count(3), n);
        }
    }

    private static void thirteenthText() {
        CHECK.sentence("Promise 4: UnsupportedOperationException: there are 12");
        SaidOnce x = new SaidOnce();
        for (int n = 1; n < 12; n++) {
            Check.school(x, "loud " + n % 10);
        }
        CHECK.due("the twelfth", Check.school(x, "thing 1;person 0 0 ear 0 stammer 0"), 12);
        x.day();
        String was = Check.digest(x);
        for (String text : new String[] {"loud 9", "", "thing 1"}) {
            Check.schoolFault(x, "loud 10");
            Check.tape(x, text);
            CHECK.thrown("a 13th <" + text + ">", FULL, x::school);
            CHECK.due("the tape is used up", Check.tapeHas(x, 0), true);
            CHECK.due("it was read", x.fault(), -1);
            CHECK.same("nothing changes", Check.digest(x), was);
        }
        Check.tape(x, "loud 10");
        CHECK.thrown("what is told first: it is wrong", ARGUMENT, x::school);
        CHECK.due("where", x.fault(), 5);
        CHECK.same("nothing changes", Check.digest(x), was);
        CHECK.due("a law may come yet", Check.law(x, "as 0"), 1);
    }

    private static void lawCountsLines() {
        CHECK.sentence("Promise 5: THE LAW: how many LINES");
        SaidOnce x = new SaidOnce();
        CHECK.due("no law", x.count(4), -1);
        for (int n = 1; n <= 12; n++) {
            CHECK.due("lines", Check.law(x, Check.lines(n, "as 1")), n);
            CHECK.due("count", x.count(4), n);
        }
        CHECK.due("no line", Check.law(x, ""), 0);
        CHECK.due("a law of no line", x.count(4), 0);
        CHECK.due("no text of the school", x.count(3), 0);
    }

    private static void lawUsesTheTapeUp() {
        CHECK.sentence("Promise 5: uses the TAPE up");
        SaidOnce x = new SaidOnce();
        Check.law(x, "far 1");
        CHECK.due("by a right text", Check.tapeHas(x, 0), true);
        Check.tape(x, "bell");
        CHECK.thrown("wrong", ARGUMENT, x::law);
        CHECK.due("by a wrong text", Check.tapeHas(x, 0), true);
    }

    private static void lawInPlaceOfTheOneBefore() {
        CHECK.sentence("THE LAW (a text, in place of the one before)");
        SaidOnce x = Check.made("thing 1;thing 1;thing 1;person 0 0 ear 0 stammer 0;person 0 1 ear 0 stammer 0");
        Check.law(x, "as 1;as 1 if 1 < 2");
        CHECK.due("by two lines", x.hears(0, 0, 0, 1), 2);
        Check.law(x, "as 1");
        CHECK.due("by one line", x.hears(0, 0, 0, 1), 1);
        Check.law(x, " ");
        CHECK.due("by none", x.hears(0, 0, 0, 1), 0);
        for (int k = 0; k < 30; k++) {
            Check.law(x, "as 2");
        }
        CHECK.due("there may be many laws", x.hears(0, 0, 0, 1), 2);
    }

    private static void faultAheadOfAnyAndWithout() {
        CHECK.sentence("Promise 6: NONE without one, and ahead of any");
        SaidOnce x = new SaidOnce();
        CHECK.due("ahead of any", x.fault(), -1);
        Check.tape(x, "bell");
        CHECK.due("a tape that was not read", x.fault(), -1);
        CHECK.due("a wrong byte at 0", Check.schoolFault(x, "bell"), 0);
        CHECK.due("a right text", Check.schoolFault(x, "loud 1"), -1);
        CHECK.due("a wrong law", Check.lawFault(x, " bell"), 1);
        CHECK.due("a right law", Check.lawFault(x, "as 1"), -1);
        CHECK.due("the last byte that can be", Check.schoolFault(x, " ".repeat(399) + "?"), 399);
        CHECK.due("the length of the longest", Check.schoolFault(x, "loud" + " ".repeat(396)), 400);
    }

    private static void faultOfTheLatest() {
        CHECK.sentence("Promise 6: the first wrong byte of the latest text that was read");
        SaidOnce x = Check.made(BEFORE);
        CHECK.due("of the school", Check.schoolFault(x, "loud"), 4);
        CHECK.due("of the law", Check.lawFault(x, "far 2 loud"), 6);
        Check.tape(x, 9);
        CHECK.thrown("what", ARGUMENT, () -> x.what(0));
        CHECK.due("what reads no text", x.fault(), 6);
        x.day();
        x.image();
        x.undo();
        x.back();
        CHECK.due("not undone", x.fault(), 6);
    }

    // What texts are made of.

    private static void emptyOrBlanksAlone() {
        CHECK.sentence("A text that is empty, or blanks alone, has no LINE");
        for (String text : new String[] {"", " ", " ".repeat(400)}) {
            schoolFault(text, -1);
            lawFault(text, -1);
            SaidOnce x = new SaidOnce();
            CHECK.due("a law of no line", Check.law(x, text), 0);
            CHECK.due("a text of no line is one", Check.school(x, text), 1);
        }
        schoolFault(";", 0);
        schoolFault(" ;", 1);
        lawFault(";", 0);
    }

    private static void blanksBetween() {
        CHECK.sentence("between all there may be blanks (32), also ahead and behind");
        String tight = "thing2;thing1;person0 1ear2stammer3knows0 1;follow0 1 0;said0 1;absent0;loud4";
        String wide = "  thing  2  ;  thing  1  ;  person  0  1  ear  2  stammer  3  knows  0  1  ;  follow  0  1  0  ;"
                + "  said  0  1  ;  absent  0  ;  loud  4  ";
        CHECK.same("wide as tight", Check.digest(Check.made(wide)), Check.digest(Check.made(tight)));
        SaidOnce x = new SaidOnce();
        CHECK.due("a tight law", Check.law(x, "far1if(not(known)or 2<thing+3+day)and 4>who;as2"), 2);
        CHECK.due("a wide law", Check.law(x, "  far  1  if  (  not  (  known  )  or  2  <  thing  +  3  )  ;  as  2  "), 2);
        schoolFault("th ing 1", 0);
        schoolFault("person 01 ear 0 stammer 0", 10);
        schoolFault("loud 0 4", 7);
        lawFault("as 1 if 1 2 < 3", 10);
    }

    private static void blankIsThirtyTwoAlone() {
        CHECK.sentence("blanks (32)");
        for (int sign : new int[] {0, 9, 10, 13, 31, 33, 127, 128, 160, 224, 255}) {
            char c = (char) sign;
            schoolFault("loud" + c + "4", 4);
            schoolFault(c + "loud 4", 0);
            schoolFault("loud 4" + c, 6);
            schoolFault(String.valueOf(c), 0);
            lawFault("as" + c + "4", 2);
            lawFault("as 4" + c, 4);
        }
    }

    private static void wordsAsLongAsTheyGoOn() {
        CHECK.sentence("Words are as long as a to z go on");
        schoolFault("louda 1", 0);
        schoolFault("loudz 1", 0);
        schoolFault("loudloud 1", 0);
        schoolFault("lou 1", 0);
        schoolFault("loud` 1", 4);
        schoolFault("loud{ 1", 4);
        schoolFault("loudA 1", 4);
        schoolFault("loudZ 1", 4);
        schoolFault("Loud 1", 0);
        schoolFault("LOUD 1", 0);
        schoolFault("person 1 1 ear 1 stammer 1 knowsx 0", 27);
        lawFault("as 1 if whoma > 1", 8);
        lawFault("as 1 if whom > 1", -1);
        lawFault("as 1 if who > 1", -1);
        lawFault("as 1 if notknown", 8);
        lawFault("as 1 ifknown", 5);
        lawFault("as 1 if known and1<2", -1);
    }

    private static void wordThatIsNone() {
        CHECK.sentence("The first wrong byte: a word that is none");
        schoolFault("far 1", 0);
        schoolFault("loud 1; bell 1", 8);
        schoolFault("loud thing", 5);
        schoolFault("person 1 1 near 1", 11);
        schoolFault("person 1 1 ear 1 knows 1", 17);
        schoolFault("person 1 1 stammer 1 ear 1", 11);
        lawFault("loud 1", 0);
        lawFault("as 1; bell 1", 6);
        lawFault("as far", 3);
        lawFault("as 1 or known", 5);
        lawFault("as 1 if stammer < 1", 8);
        lawFault("as 1 if if", 8);
        lawFault("as 1 if known not known", 14);
        lawFault("as 1 if 1 < known", 12);
        lawFault("as 1 if known < 1", 14);
        lawFault("as 1 if 1 and 2 < 3", 10);
    }

    /** Each word of a text with one letter changed, put in or made a capital: it is none then, and the fault is its begin. */
    private static void letters(boolean school, String text) {
        for (int at = 0; at < text.length(); at++) {
            char c = text.charAt(at);
            if (c < 'a' || c > 'z') {
                continue;
            }
            int begin = at;
            while (begin > 0 && text.charAt(begin - 1) >= 'a') {
                begin--;
            }
            fault(school, text.substring(0, at) + (c == 'q' ? 'x' : 'q') + text.substring(at + 1), begin);
            fault(school, text.substring(0, at) + "q" + text.substring(at), begin);
            boolean isWord = text.substring(begin, at).equals("who");
            fault(school, text.substring(0, at) + (char) (c - 32) + text.substring(at + 1), isWord ? at : begin);
        }
    }

    private static void wordsLetterByLetter() {
        CHECK.sentence("The first wrong byte: a word that is none");
        letters(true, "thing 1");
        letters(true, "follow 0 0 0");
        letters(true, "said 0 0");
        letters(true, "absent 0");
        letters(true, "loud 3");
        letters(true, "person 1 1 ear 1 stammer 1");
        schoolFault("person 1 1 ear 1 stammer 1 nnows 1", 27);
        schoolFault("person 1 1 ear 1 stammer 1 knowq 1", 27);
        schoolFault("person 1 1 ear 1 stammer 1 know 1", 27);
        letters(false, "far 1");
        letters(false, "near 1");
        letters(false, "as 1");
        letters(false, "as 1 if known");
        letters(false, "as 1 if not known");
        for (String part : new String[] {"thing", "wording", "who", "whom", "apart", "ear", "day"}) {
            letters(false, "as 1 if " + part + " < 1");
            letters(false, "as 1 if 1 > " + part);
        }
        lawFault("as 1 if known qnd known", 14);
        lawFault("as 1 if known anq known", 14);
        lawFault("as 1 if known qr known", 14);
        lawFault("as 1 if known oq known", 14);
        lawFault("as 1 qf known", 5);
        lawFault("as 1 iq known", 5);
    }

    // Numbers.

    private static void numbersOfOneToThreeDigits() {
        CHECK.sentence("Numbers are of 1 to 3 digits");
        schoolFault("loud 4", -1);
        schoolFault("loud 04", -1);
        schoolFault("loud 004", -1);
        schoolFault("loud 0004", 5);
        schoolFault("loud " + "0".repeat(395), 5);
        schoolFault("loud 4294967296", 5);
        schoolFault("loud 18446744073709551616", 5);
        schoolFault("loud /", 5);
        schoolFault("loud :", 5);
        schoolFault("loud 0/", 6);
        schoolFault("loud 9:", 6);
        schoolFault("loud -1", 5);
        schoolFault("loud +1", 5);
        schoolFault("loud 1.0", 6);
        lawFault("as 1 if 0999 > 1", 8);
        lawFault("as 1 if 1000 > 1", 8);
    }

    private static String padded(int n) {
        return String.valueOf(1000 + n).substring(1);
    }

    /** A number between two parts of a right line: what may stand there, what may not, and that it may not be missing. */
    private static void numberBounds(boolean school, String ahead, int low, int high, String behind) {
        int at = ahead.length();
        fault(school, ahead + low + behind, -1);
        fault(school, ahead + high + behind, -1);
        fault(school, ahead + padded(low) + behind, -1);
        fault(school, ahead + padded(high) + behind, -1);
        fault(school, ahead + "0" + padded(low) + behind, at);
        fault(school, ahead + "0" + padded(high) + behind, at);
        fault(school, ahead + (high + 1) + behind, at);
        fault(school, ahead + "1000" + behind, at);
        if (low > 0) {
            fault(school, ahead + (low - 1) + behind, at);
        }
        if (high < 999) {
            fault(school, ahead + "999" + behind, at);
        }
        fault(school, ahead + "-" + high + behind, at);
        fault(school, ahead + ";", at);
        fault(school, ahead, at);
    }

    private static void numbersOfTheSchool() {
        CHECK.sentence("thing N | person X Y ear N stammer N [ knows T { T } ] | follow T T T | said T N | absent P | loud N");
        numberBounds(true, "thing ", 1, 6, "");
        numberBounds(true, "person ", 0, 9, " 5 ear 0 stammer 0");
        numberBounds(true, "person 5 ", 0, 9, " ear 0 stammer 0");
        numberBounds(true, "person 5 5 ear ", 0, 9, " stammer 0");
        numberBounds(true, "person 5 5 ear 0 stammer ", 0, 100, "");
        numberBounds(true, "person 5 5 ear 0 stammer 0 knows ", 0, 1, "");
        numberBounds(true, "follow ", 0, 1, " 0 0");
        numberBounds(true, "follow 0 ", 0, 1, " 0");
        numberBounds(true, "follow 0 0 ", 0, 1, "");
        numberBounds(true, "said ", 0, 1, " 0");
        numberBounds(true, "said 0 ", 0, 1, "");
        numberBounds(true, "said 1 ", 0, 0, "");
        numberBounds(true, "absent ", 0, 0, "");
        numberBounds(true, "loud ", 0, 9, "");
    }

    private static void numbersOfTheLaw() {
        CHECK.sentence("All numbers are of 1 to 3 digits (N 0 to 99)");
        for (String kind : new String[] {"far ", "near ", "as "}) {
            numberBounds(false, kind, 0, 99, "");
            numberBounds(false, kind, 0, 99, " if known");
        }
        numberBounds(false, "as 1 if ", 0, 999, " < 1");
        numberBounds(false, "as 1 if 1 > ", 0, 999, "");
        numberBounds(false, "as 1 if 1 + ", 0, 999, " < ear");
        numberBounds(false, "as 1 if not ( day > ", 0, 999, " )");
    }

    // Where more must come, and where it may not.

    /** Cut off behind each token, and with what cannot stand there in place of each; complete: the tokens of a right text. */
    private static void cuts(boolean school, String text, int... complete) {
        String[] tokens = text.split(" ");
        StringBuilder s = new StringBuilder();
        for (int k = 0; k < tokens.length; k++) {
            int begin = k == 0 ? 0 : s.length() + 1;
            String ahead = k == 0 ? "" : s + " ";
            fault(school, ahead + "?", begin);
            fault(school, ahead + "bell", begin);
            s = new StringBuilder(ahead + tokens[k]);
            boolean isComplete = false;
            for (int n : complete) {
                isComplete |= n == k + 1;
            }
            fault(school, s.toString(), isComplete ? -1 : s.length());
            fault(school, s + "   ", isComplete ? -1 : s.length() + 3);
            fault(school, s + ";", isComplete ? s.length() + 1 : s.length());
            fault(school, s + " ; ", s.length() + (isComplete ? 3 : 1));
            fault(school, s + ";;", isComplete ? s.length() + 1 : s.length());
        }
    }

    private static void schoolTextsLength() {
        CHECK.sentence("The first wrong byte: or the text's length, if more must come");
        cuts(true, "thing 3", 2);
        cuts(true, "person 3 4 ear 5 stammer 6 knows 0 1", 7, 9, 10);
        cuts(true, "follow 0 1 1", 4);
        cuts(true, "said 0 1", 3);
        cuts(true, "absent 0", 2);
        cuts(true, "loud 3 ; loud 4", 2, 5);
        schoolFault("loud 3 loud 4", 7);
        schoolFault("thing 1 2", 8);
        schoolFault("follow 0 0 0 0", 13);
        schoolFault("said 0 0 0", 9);
        schoolFault("absent 0 0", 9);
    }

    private static void lawTextsLength() {
        CHECK.sentence("The first wrong byte: or the text's length, if more must come");
        cuts(false, "far 1 if known and not 2 + thing < 3 or ( known )", 2, 4, 11, 15);
        cuts(false, "near 2 if ( 1 < 2 or ( known and not known ) )", 2, 15);
        cuts(false, "as 3 ; as 4", 2, 5);
        lawFault("as 3 4", 5);
        lawFault("as 3 if known)", 13);
        lawFault("as 3 if (known))", 15);
        lawFault("as 3 if ()", 9);
        lawFault("as 3 if (known and)", 18);
        lawFault("as 3 if (1) < 2", 10);
        lawFault("as 3 if 1 < (2)", 12);
        lawFault("as 3 if 1 + (2) < 3", 12);
        lawFault("as 3 if 1 < 2 < 3", 14);
        lawFault("as 3 if 1 < 2 > 3", 14);
        lawFault("as 3 if + 1 < 2", 8);
        lawFault("as 3 if 1 + + 1 < 2", 12);
        lawFault("as 3 if 1 < 2 +", 15);
        lawFault("as 3 if known + 1 < 2", 14);
    }

    // Too many.

    private static void schoolLinesTooMany() {
        CHECK.sentence("LINE { ; LINE }, at most 14; of a LINE too many, the first word");
        String fourteen = Check.lines(14, "loud 1");
        schoolFault(fourteen, -1);
        schoolFault(fourteen + ";loud 1", 98);
        schoolFault(fourteen + " ;  loud 1", 101);
        schoolFault(fourteen + ";bell", 98);
        schoolFault(fourteen + ";loud 99", 98);
        schoolFault(fourteen + "; ?", 99);
        schoolFault(fourteen + ";", 98);
        schoolFault(fourteen + ";  ", 100);
        schoolFault(Check.lines(13, "loud 1") + ";loud 1;", 98);
        schoolFault(Check.lines(13, "loud 1") + ";loud 99", 96);
        schoolFault(Check.lines(15, "loud 1") + ";loud 99", 98);
    }

    private static void lawLinesTooMany() {
        CHECK.sentence("THE LAW: LINE { ; LINE }, at most 12; of a LINE too many, the first word");
        String twelve = Check.lines(12, "as 1");
        lawFault(twelve, -1);
        lawFault(twelve + ";as 1", 60);
        lawFault(twelve + " ;  far 1", 63);
        lawFault(twelve + ";bell", 60);
        lawFault(twelve + "; as 100", 61);
        lawFault(twelve + ";", 60);
        lawFault(twelve + "; ", 61);
        lawFault(Check.lines(11, "as 1") + ";as 100", 58);
    }

    private static void thingsTooMany() {
        CHECK.sentence("THINGS (at most 10); of a THING too many, the first word");
        SaidOnce x = Check.made(Check.lines(9, "thing 1"));
        CHECK.due("a tenth and an eleventh", Check.schoolFault(x, "thing 2; thing 1"), 9);
        CHECK.due("nine", x.count(0), 9);
        CHECK.due("a tenth", Check.schoolFault(x, "thing 2"), -1);
        CHECK.due("ten", x.count(0), 10);
        CHECK.due("its wordings", x.thing(9, 0), 2);
        CHECK.due("an eleventh", Check.schoolFault(x, " thing 1"), 1);
        CHECK.due("the word ahead of the rest", Check.schoolFault(x, "loud 1;thing 7"), 7);
        CHECK.due("the word alone", Check.schoolFault(x, "thing"), 0);
        CHECK.due("ten stay", x.count(0), 10);
        SaidOnce y = new SaidOnce();
        CHECK.due("ten in one text", Check.schoolFault(y, Check.lines(10, "thing 6")), -1);
        CHECK.due("all left", y.count(8), 60);
        CHECK.due("eleven in one text", Check.schoolFault(new SaidOnce(), Check.lines(11, "thing 6")), 80);
    }

    private static void peopleTooMany() {
        CHECK.sentence("PEOPLE (at most 10); of a PERSON too many, the first word");
        SaidOnce x = new SaidOnce();
        for (int k = 0; k < 9; k++) {
            Check.school(x, "person " + k + " 9 ear 0 stammer 0");
        }
        String tenth = "person 9 9 ear 7 stammer 0";
        CHECK.due("a tenth and an eleventh", Check.schoolFault(x, tenth + "; person 0 0 ear 0 stammer 0"), 28);
        CHECK.due("nine", x.count(1), 9);
        CHECK.due("a tenth", Check.schoolFault(x, tenth), -1);
        CHECK.due("ten", x.count(1), 10);
        CHECK.due("its ear", x.person(9, 2), 7);
        CHECK.due("an eleventh", Check.schoolFault(x, "  person 0 0 ear 0 stammer 0"), 2);
        CHECK.due("the word ahead of the seat", Check.schoolFault(x, "person 9 9 ear 0 stammer 0"), 0);
        CHECK.due("the word alone", Check.schoolFault(x, "loud 1;person"), 7);
        CHECK.due("ten stay", x.count(1), 10);
    }

    private static void rulesTooMany() {
        CHECK.sentence("RULES (at most 12); of a RULE too many, the first word");
        SaidOnce x = Check.made("thing 1;thing 1;" + Check.lines(11, "follow 0 0 0"));
        CHECK.due("a twelfth and a thirteenth", Check.schoolFault(x, "follow 0 1 0; follow 0 0 0"), 14);
        CHECK.due("eleven", x.count(2), 11);
        CHECK.due("none at 11", x.rule(11, 1), -1);
        CHECK.due("a twelfth", Check.schoolFault(x, "follow 0 1 0"), -1);
        CHECK.due("twelve", x.count(2), 12);
        CHECK.due("at 11", x.rule(11, 1), 1);
        CHECK.due("a thirteenth", Check.schoolFault(x, " follow 0 0 0"), 1);
        CHECK.due("the word ahead of the rest", Check.schoolFault(x, "loud 1;follow 9"), 7);
        CHECK.due("twelve stay", x.count(2), 12);
    }

    // Lines of the school.

    private static void seatNobodyHas() {
        CHECK.sentence("X Y: a SEAT nobody has yet, else Y is wrong");
        String behind = " ear 0 stammer 0";
        schoolFault("person 9 9" + behind, 9);
        schoolFault("person  9   9" + behind, 12);
        schoolFault("person 009 009" + behind, 11);
        schoolFault("person 9 8" + behind, -1);
        schoolFault("person 8 9" + behind, -1);
        schoolFault("person 9 9", 9);
        schoolFault("person 1 2" + behind + ";person 2 1" + behind, -1);
        schoolFault("person 1 2" + behind + ";person 1 2" + behind, 36);
        schoolFault("absent 0;person 9 9" + behind, 18);
        schoolFault("person 0 0" + behind, -1);
        SaidOnce x = Check.made("person 3 3" + behind + ";person 4 4" + behind);
        x.change(0, 1);
        CHECK.due("the seat that one has now", Check.schoolFault(x, "person 3 3" + behind), 9);
        CHECK.due("the seat the other one has now", Check.schoolFault(x, "person 4 4" + behind), 9);
        CHECK.due("another one", Check.schoolFault(x, "person 3 4" + behind), -1);
    }

    private static void thereByThen() {
        CHECK.sentence("T: a THING, P: a PERSON that there is by then");
        SaidOnce x = new SaidOnce();
        CHECK.due("knows ahead of it", Check.schoolFault(x, "person 0 0 ear 0 stammer 0 knows 0;thing 1"), 33);
        CHECK.due("follow ahead of it", Check.schoolFault(x, "follow 0 0 0;thing 1"), 7);
        CHECK.due("said ahead of it", Check.schoolFault(x, "said 0 0;thing 1"), 5);
        CHECK.due("absent ahead of one", Check.schoolFault(x, "absent 0;person 0 0 ear 0 stammer 0"), 7);
        CHECK.due("of a wrong text there is none", Check.schoolFault(x, "thing 1;bell"), 8);
        CHECK.due("so that it is not there", Check.schoolFault(x, "said 0 0"), 5);
        CHECK.due("all behind it", Check.schoolFault(x, "thing 1;person 0 0 ear 0 stammer 0 knows 0;follow 0 0 0;"
                + "said 0 0;absent 0"), -1);
        CHECK.due("one more than by then", Check.schoolFault(x, "thing 1;follow 0 1 2"), 19);
        CHECK.due("one more person than by then", Check.schoolFault(x, "person 1 1 ear 0 stammer 0;absent 2"), 34);
        CHECK.due("the latest", Check.schoolFault(x, "thing 1;follow 0 1 1;person 1 1 ear 0 stammer 0 knows 1;absent 1"),
                -1);
    }

    private static void thingsKnown() {
        CHECK.sentence("person X Y ear N stammer N [ knows T { T } ]");
        SaidOnce x = Check.made(Check.lines(10, "thing 1"), "person 0 0 ear 0 stammer 0 knows 9 8 7 6 5 4 3 2 1 0",
                "person 1 1 ear 0 stammer 0;person 2 2 ear 0 stammer 0 knows 9");
        CHECK.due("all", x.person(0, 4), 1023);
        CHECK.due("none", x.person(1, 4), 0);
        CHECK.due("the last", x.person(2, 4), 512);
        String many = "person 3 3 ear 0 stammer 0 knows" + " 5".repeat(184);
        CHECK.due("as long as the tape goes", many.length(), 400);
        CHECK.due("one thing as often as one likes", Check.schoolFault(x, many), -1);
        CHECK.due("it is known", x.person(3, 4), 32);
        CHECK.due("a tenth is the last one", Check.schoolFault(x, "person 4 4 ear 0 stammer 0 knows 9 10"), 35);
    }

    private static void rulesOfOneThing() {
        CHECK.sentence("follow: from the first two (they may be one) the third");
        SaidOnce x = Check.made("thing 1;thing 1;follow 0 0 1;follow 1 0 1;follow 0 0 0;person 0 0 ear 0 stammer 0 knows 0");
        CHECK.due("rules", x.count(2), 3);
        CHECK.due("they are one", x.rule(0, 0) == 0 && x.rule(0, 1) == 0 && x.rule(0, 2) == 1, true);
        CHECK.due("the third may be one of them", x.rule(1, 0) == 1 && x.rule(1, 1) == 0 && x.rule(1, 2) == 1, true);
        CHECK.due("one is enough", x.person(0, 6), 3);
    }

    private static void sayingsSaid() {
        CHECK.sentence("said: a SAYING that was SAID");
        SaidOnce x = Check.made(Check.lines(10, "thing 6"), "said 0 0;said 9 5", "said 0 0");
        CHECK.due("the least and the greatest number", x.store(), 1L | 1L << 59);
        CHECK.due("as many as are unlike", x.count(7), 2);
        CHECK.due("nobody said it", x.count(10), 0);
        CHECK.due("what is told is no act", x.count(11), 0);
        CHECK.due("a wording that there is not", Check.schoolFault(x, "said 9 6"), 7);
        CHECK.due("a thing that there is not", Check.schoolFault(x, "said 10 0"), 5);
    }

    private static void loudAtFirst() {
        CHECK.sentence("N of loud: LOUD 0 to 9, 2 at first");
        SaidOnce x = new SaidOnce();
        CHECK.due("at first", x.count(6), 2);
        Check.school(x, "loud 0");
        CHECK.due("least", x.count(6), 0);
        Check.school(x, "loud 9");
        CHECK.due("most", x.count(6), 9);
        Check.school(x, "");
        CHECK.due("it stays", x.count(6), 9);
        Check.school(x, "loud 3;loud 5");
        CHECK.due("the latest line", x.count(6), 5);
    }

    private static void absentNotAtFirst() {
        CHECK.sentence("ABSENT or not (not at first)");
        SaidOnce x = Check.made("person 0 0 ear 0 stammer 0;person 1 0 ear 0 stammer 0;absent 1;absent 1");
        CHECK.due("as told", x.count(9), 2);
        CHECK.due("not at first", x.person(0, 5), 0);
        CHECK.due("told so", x.person(1, 5), 1);
        x.day();
        Check.school(x, "person 2 0 ear 0 stammer 0");
        CHECK.due("all back, and a new one", x.count(9), 0);
        Check.school(x, "absent 2");
        CHECK.due("by a text of its own", x.count(9), 4);
    }

    // Nothing stays.

    private static void ofAWrongTextNothingStays() {
        CHECK.sentence("Of a wrong text nothing stays");
        for (String line : new String[] {"thing 1", "person 5 5 ear 5 stammer 5 knows 0", "follow 0 0 0", "said 0 1",
                "absent 0",
            "loud 1", "thing 3;said 1 2;person 6 6 ear 0 stammer 0 knows 1;absent 2;follow 1 0 1;loud 0"}) {
            SaidOnce x = Check.made("thing 2;person 0 0 ear 1 stammer 0 knows 0;person 1 0 ear 1 stammer 0;loud 4");
            x.say(0, 0, 0);
            String was = Check.digest(x);
            CHECK.due("wrong behind " + line, Check.schoolFault(x, line + ";bell"), line.length() + 1);
            CHECK.same("nothing stays of " + line, Check.digest(x), was);
            CHECK.due("no end of " + line, Check.schoolFault(x, line + ";"), line.length() + 1);
            CHECK.same("nothing stays of " + line, Check.digest(x), was);
        }
    }

    private static void ofAWrongLawNothingStays() {
        CHECK.sentence("Of a wrong text nothing stays");
        SaidOnce x = Check.made("thing 1;thing 1;thing 1;person 0 0 ear 0 stammer 0;person 0 1 ear 0 stammer 0");
        Check.law(x, "as 1 if not known");
        for (String text : new String[] {"as 2;bell", "as 2;", "as 2 if known or", "near 9;as 100",
                "as 1 if 1 < 2;as 1 if (known"}) {
            Check.tape(x, text);
            CHECK.thrown(text, ARGUMENT, x::law);
            CHECK.due("the law before stays", x.hears(0, 0, 0, 1), 1);
            CHECK.due("its lines", x.count(4), 1);
        }
        SaidOnce y = new SaidOnce();
        CHECK.due("a wrong first law", Check.lawFault(y, "as 1;bell"), 5);
        CHECK.due("no law", y.count(4), -1);
    }

    // ( and not within one another.

    /** All the ways of seven deep: a bracket where the bit is set, else a not. */
    private static String deep(int depth, int kinds) {
        StringBuilder s = new StringBuilder("as 1 if ");
        StringBuilder closed = new StringBuilder("known");
        for (int k = 0; k < depth; k++) {
            boolean isBracket = (kinds >> k & 1) != 0;
            s.append(isBracket ? "(" : "not ");
            closed.append(isBracket ? ")" : "");
        }
        return s.append(closed).toString();
    }

    private static void sixDeep() {
        CHECK.sentence("( and not within one another at most 6 deep");
        for (int kinds = 0; kinds < 64; kinds++) {
            lawFault(deep(6, kinds), -1);
        }
    }

    private static void seventhDeep() {
        CHECK.sentence("The first wrong byte: the ( or not that is a 7th one deep");
        for (int kinds = 0; kinds < 128; kinds++) {
            String text = deep(7, kinds);
            int at = deep(6, kinds & 63).indexOf("known");
            lawFault(text, at);
            lawFault(text.substring(0, at) + (kinds < 64 ? "not" : "("), at);
        }
    }

    private static void notWithinOneAnother() {
        CHECK.sentence("( and not within one another");
        String six = "((((((known))))))";
        String nots = "not not not not not not known";
        lawFault("as 1 if " + six + " and " + six + " or " + nots + " and " + nots + " or " + six, -1);
        lawFault("as 1 if " + six + ";as 1 if " + six + ";as 1 if " + nots + ";as 1 if " + nots, -1);
        lawFault("as 1 if (((((" + "(known) and (known) or (known)" + ") and (known)) or not known)))", -1);
        lawFault("as 1 if not (not (known) and not (known) or not not not not known)", -1);
        lawFault("as 1 if not (not (known) and not (known) or not not not not not known)", 60);
        lawFault("as 1 if (((((known) and (known and (known))))))", -1);
        lawFault("as 1 if (((((known) and (known and ((known)))))))", 36);
    }

    private static void depthOfAWrongText() {
        CHECK.sentence("Of a wrong text nothing stays");
        String[] wrong = {"as 1 if ((((((known", "as 1 if not not not not not not", "as 1 if not", "as 1 if known and",
                "as 1 if 1 < 2 or", "as 1 if (known and not (", "as 1 if not (known))",
            "as 1 if known or not known and (1 < 2 and ", "as 1 if (1 < 2) and not 3", "as 1;as 1 if (known) and"};
        for (String text : wrong) {
            SaidOnce first = Check.made("thing 1;thing 1;person 0 0 ear 0 stammer 0;person 0 1 ear 0 stammer 0 knows 0");
            CHECK.due("wrong", Check.lawFault(first, text) >= 0, true);
            CHECK.due("right behind " + text, Check.law(first, "as 1 if known"), 1);
            CHECK.due("as told behind " + text, first.hears(0, 0, 0, 1), 1);
            CHECK.due("not so behind " + text, first.hears(1, 0, 0, 0), 0);
            SaidOnce x = Check.made("thing 1;thing 1;person 0 0 ear 0 stammer 0;person 0 1 ear 0 stammer 0 knows 0");
            Check.tape(x, text);
            CHECK.thrown(text, ARGUMENT, x::law);
            CHECK.due("a bracket too many behind " + text, Check.lawFault(x, "as 1 if known)"), 13);
            CHECK.due("six deep behind " + text, Check.lawFault(x,
                    "as 1 if ((((((known))))));as 1 if not not not not not not known"), -1);
            CHECK.due("right behind " + text, Check.law(x, "as 1 if known and not 1 < 1"), 1);
            CHECK.due("as told behind " + text, x.hears(0, 0, 0, 1), 1);
            CHECK.due("not so behind " + text, x.hears(1, 0, 0, 0), 0);
        }
    }
}
