/** Promises 1 to 6 and 50: a new object, the tape, texts of the school and of the law, and where they are wrong. */
public final class TextTest {
    private static final Check CHECK = new Check("TextTest");
    private static final String ONE = "person 0 0 ear 1 stammer 1";

    public static void main(String[] args) {
        newObject();
        feed();
        end();
        schoolIsTold();
        schoolFaults();
        schoolBounds();
        textsOfTheSchool();
        lawIsTold();
        lawFaults();
        lawDepth();
        faultStays();
        CHECK.finish();
    }

    private static void newObject() {
        SaidOnce x = new SaidOnce();
        int[] due = {0, 0, 0, 0, -1, 0, 2, 0, 0, 0, 0, 0};
        for (int what = 0; what < due.length; what++) {
            CHECK.due("new count " + what, x.count(what), due[what]);
        }
        CHECK.due("count -1", x.count(-1), -1);
        CHECK.due("count 12", x.count(12), -1);
        CHECK.due("new store", x.store(), 0);
        CHECK.due("new fault", x.fault(), -1);
        CHECK.due("new seed", x.seed(7), 1);
        CHECK.due("seed set", x.seed(8), 7);
        CHECK.due("new undo", x.undo(), false);
        CHECK.due("new back", x.back(), false);
        CHECK.due("new last", x.last(), 0);
        CHECK.due("new groups", x.groups(false), 0);
        CHECK.due("new most", x.groups(true), 0);
        CHECK.due("new exam", x.exam(), 0);
        CHECK.due("new teacher", x.teacher(), -1);
        CHECK.due("new trial", x.trial(40, -1), 0);
        CHECK.due("new span", x.span(40, true), 0);
        CHECK.due("a term draws nothing without people", x.term(40), 0);
        CHECK.due("seed after it", x.seed(1), 8);
    }

    private static void feed() {
        SaidOnce x = new SaidOnce();
        for (int n = 20; n <= 400; n += 20) {
            CHECK.due("feed to " + n, x.feed(0, 0, 0, 0, 0), n);
        }
        CHECK.due("feed beyond 400", x.feed(1, 1, 1, 1, 1), -1);
        CHECK.due("end 381", x.end(381), true);
        CHECK.due("feed to 401", x.feed(1, 1, 1, 1, 1), -1);
        CHECK.due("end 380", x.end(380), true);
        CHECK.due("feed to 400 again", x.feed(1, 1, 1, 1, 1), 400);
        SaidOnce y = new SaidOnce();
        // The highest byte of each number comes first: "lou", "d 7", then blanks.
        y.feed(0x6c6f7564, 0x20372020, 0x20202020, 0x20202020, 0x20202020);
        CHECK.due("bytes in order", y.school(), 1);
        CHECK.due("loud", y.count(6), 7);
        CHECK.due("the tape is used up", y.feed(0, 0, 0, 0, 0), 20);
    }

    private static void end() {
        SaidOnce x = new SaidOnce();
        CHECK.due("end 0 of none", x.end(0), true);
        CHECK.due("end 1 of none", x.end(1), false);
        CHECK.due("end -1", x.end(-1), false);
        x.feed(0, 0, 0, 0, 0);
        CHECK.due("end 21", x.end(21), false);
        CHECK.due("end -5", x.end(-5), false);
        CHECK.due("nothing happened", x.end(20), true);
        CHECK.due("end 3", x.end(3), true);
        CHECK.due("end 4", x.end(4), false);
        CHECK.due("feed behind 3", x.feed(0, 0, 0, 0, 0), 23);
        CHECK.due("end least", x.end(Integer.MIN_VALUE), false);
    }

    private static void schoolIsTold() {
        SaidOnce x = Check.made(" thing 2;thing6 ; person 1 2 ear 3 stammer 45 knows 1 0 1;person2 9ear0stammer100 ;"
                + "follow 0 0 1;said 1 5;said 1 5;absent 1;loud 9;loud 4 ");
        CHECK.due("things", x.count(0), 2);
        CHECK.due("wordings", x.thing(1, 0), 6);
        CHECK.due("people", x.count(1), 2);
        CHECK.due("x", x.person(0, 0), 1);
        CHECK.due("y", x.person(0, 1), 2);
        CHECK.due("ear", x.person(0, 2), 3);
        CHECK.due("stammer", x.person(0, 3), 45);
        CHECK.due("knows", x.person(0, 4), 3);
        CHECK.due("x of 1", x.person(1, 0), 2);
        CHECK.due("y of 1", x.person(1, 1), 9);
        CHECK.due("stammer of 1", x.person(1, 3), 100);
        CHECK.due("knows of 1", x.person(1, 4), 0);
        CHECK.due("absent", x.count(9), 2);
        CHECK.due("rules", x.count(2), 1);
        CHECK.due("rule", x.rule(0, 0) * 100 + x.rule(0, 1) * 10 + x.rule(0, 2), 1);
        CHECK.due("store", x.store(), 1L << 11);
        CHECK.due("in the store", x.count(7), 1);
        CHECK.due("all left", x.count(8), 7);
        CHECK.due("loud", x.count(6), 4);
        CHECK.due("said by a text is no row", x.count(10), 0);
        CHECK.due("leading noughts", Check.school(x, "loud 003"), 2);
        CHECK.due("loud again", x.count(6), 3);
    }

    private static void schoolFault(String text, int due) {
        SaidOnce x = Check.made("thing 2;thing 1;" + ONE);
        CHECK.due("school fault of " + text, Check.schoolFault(x, text), due);
        CHECK.due("things stay after " + text, due == -1 || x.count(0) == 2 && x.count(1) == 1 && x.count(3) == 1, true);
    }

    private static void schoolFaults() {
        schoolFault("", -1);
        schoolFault("   ", -1);
        schoolFault("things 1", 0);
        schoolFault("Thing 1", 0);
        schoolFault("  1", 2);
        schoolFault("thing", 5);
        schoolFault("thing  ", 7);
        schoolFault("thing 0", 6);
        schoolFault("thing 06", -1);
        schoolFault("thing 0006", 6);
        schoolFault("thing 1 2", 8);
        schoolFault("thing 1;", 8);
        schoolFault("thing 1; ", 9);
        schoolFault("thing 1;;", 8);
        schoolFault(";", 0);
        schoolFault("person 0 0 ear 1 stammer 1", 9);
        schoolFault("person 0 1 ear 1 stammer 1", -1);
        schoolFault("person 1 1 ear 1 stammer 1;person 1 1 ear", 36);
        schoolFault("person 1", 8);
        schoolFault("person 1 1", 10);
        schoolFault("person 1 1 eat", 11);
        schoolFault("person 1 1 ear 1 1", 17);
        schoolFault("person 1 1 ear 1 stammer 100 knows", 34);
        schoolFault("person 1 1 ear 1 stammer 100 knows 2", 35);
        schoolFault("person 1 1 ear 1 stammer 100 knows 1 0 2", 39);
        schoolFault("person 1 1 ear 1 stammer 100 knows 1 0 ;", 40);
        schoolFault("person 1 1 ear 1 stammer 100 0", 29);
        schoolFault("follow 0 1", 10);
        schoolFault("follow 0 2 0", 9);
        schoolFault("follow 1 1 1", -1);
        schoolFault("said 1 1", 7);
        schoolFault("said 2 0", 5);
        schoolFault("said 0", 6);
        schoolFault("absent 1", 7);
        schoolFault("absent 1;" + "person 1 1 ear 1 stammer 1", 7);
        schoolFault("person 1 1 ear 1 stammer 1;absent 1", -1);
        schoolFault("loud 10", 5);
        schoolFault("loud -1", 5);
        schoolFault("loud 1\u0000", 6);
        schoolFault("loud 1\t", 6);
        schoolFault("thing 1;thing 3;said 3 3", 23);
        schoolFault("thing 1;thing 3;said 3 2;said 4 0", 30);
    }

    private static void schoolBounds() {
        StringBuilder ten = new StringBuilder("thing 1");
        for (int k = 1; k < 10; k++) {
            ten.append(";thing 1");
        }
        SaidOnce x = Check.made(ten.toString());
        CHECK.due("ten things", x.count(0), 10);
        CHECK.due("an eleventh thing", Check.schoolFault(x, "loud 1; thing 99"), 8);
        for (int k = 0; k < 10; k++) {
            Check.school(x, "person " + k + " 9 ear 0 stammer 0 knows 9");
        }
        CHECK.due("ten people", x.count(1), 10);
        CHECK.due("an eleventh person", Check.schoolFault(x, "person"), 0);
        StringBuilder twelve = new StringBuilder("follow 9 9 0");
        for (int k = 1; k < 12; k++) {
            twelve.append(";follow 9 9 0");
        }
        CHECK.due("twelve rules", Check.school(x, twelve.toString()), 12);
        CHECK.due("a thirteenth rule", Check.schoolFault(x, " follow 0 0 0"), 1);
        CHECK.due("rules", x.count(2), 12);
        SaidOnce y = new SaidOnce();
        StringBuilder lines = new StringBuilder("loud 1");
        for (int k = 1; k < 14; k++) {
            lines.append(";loud 1");
        }
        CHECK.due("fourteen lines", Check.school(y, lines.toString()), 1);
        CHECK.due("a fifteenth must come", Check.schoolFault(y, lines + ";"), 98);
        CHECK.due("a fifteenth is too many", Check.schoolFault(y, lines + "; loud 1"), 99);
        CHECK.due("one thing alone cannot be known yet", Check.schoolFault(y, "thing 1;said 1 0"), 13);
    }

    private static void textsOfTheSchool() {
        SaidOnce x = new SaidOnce();
        for (int n = 1; n <= 12; n++) {
            CHECK.due("text " + n, Check.school(x, n == 3 ? "" : "loud " + n % 10), n);
        }
        Check.tape(x, "loud 9");
        CHECK.thrown("a 13th text", UnsupportedOperationException.class, x::school);
        CHECK.due("it was read", x.fault(), -1);
        CHECK.due("it is not there", x.count(6), 2);
        CHECK.due("the tape is used up", x.end(1), false);
        Check.tape(x, "loud 99");
        CHECK.thrown("a wrong 13th text", IllegalArgumentException.class, x::school);
        CHECK.due("its fault", x.fault(), 5);
        Check.tape(x, "loud 9");
        CHECK.thrown("a right one again", UnsupportedOperationException.class, x::school);
        CHECK.due("no fault", x.fault(), -1);
        CHECK.due("texts", x.count(3), 12);
    }

    private static void lawIsTold() {
        SaidOnce x = new SaidOnce();
        CHECK.due("no law", x.count(4), -1);
        CHECK.due("empty law", Check.law(x, "  "), 0);
        CHECK.due("an empty law is one", x.count(4), 0);
        CHECK.due("law", Check.law(x, "far 1;near 2if known;as 99 if thing+1<2 or(not who>whom and ear<day+apart)"), 3);
        CHECK.due("lines", x.count(4), 3);
        CHECK.due("wrong law", Check.lawFault(x, "far 1;"), 6);
        CHECK.due("the law before stays", x.count(4), 3);
        CHECK.due("in its place", Check.law(x, "far 1"), 1);
        CHECK.due("no text of the school", x.count(3), 0);
    }

    private static void lawFault(String text, int due) {
        SaidOnce x = new SaidOnce();
        CHECK.due("law fault of " + text, Check.lawFault(x, text), due);
        CHECK.due("lines after " + text, due == -1 || x.count(4) == -1, true);
    }

    private static void lawFaults() {
        lawFault("far", 3);
        lawFault("far 99", -1);
        lawFault("far 100", 4);
        lawFault("far 0099", 4);
        lawFault("far 5 of", 6);
        lawFault("far 5 known", 6);
        lawFault("loud 5", 0);
        lawFault("as 5 if known known", 14);
        lawFault("as 5 if known < 3", 14);
        lawFault("as 5 if (ear) > 3", 12);
        lawFault("as 5 if ear + > 3", 14);
        lawFault("as 5 if ear + known > 3", 14);
        lawFault("as 5 if ear > 3 > 2", 16);
        lawFault("as 5 if ear > 3 + 2 < 1", 20);
        lawFault("as 5 if ear = 3", 12);
        lawFault("as 5 if ear >", 13);
        lawFault("as 5 if 999 > 1000", 14);
        lawFault("as 5 if 999 > ear +", 19);
        lawFault("as 5 if known and", 17);
        lawFault("as 5 if known or", 16);
        lawFault("as 5 if or known", 8);
        lawFault("as 5 if known)", 13);
        lawFault("as 5 if (known", 14);
        lawFault("as 5 if (known;as 1", 14);
        lawFault("as 5 if (known))", 15);
        lawFault("as 5 if ()", 9);
        lawFault("as 5 if not", 11);
        lawFault("as 5 if not;", 11);
        lawFault("as 5 if whose < 3", 8);
        lawFault("as 5 if knownor known", 8);
        lawFault("as 5 if known or(known)and not(known or 1<2)", -1);
        lawFault("as 5 if 1<2and known", -1);
        lawFault(";", 0);
        lawFault("far 1;;far 1", 6);
        StringBuilder lines = new StringBuilder("as 5");
        for (int k = 1; k < 12; k++) {
            lines.append(";as 5");
        }
        lawFault(lines.toString(), -1);
        lawFault(lines + ";", 60);
        lawFault(lines + "; near 100", 61);
    }

    private static void lawDepth() {
        lawFault("as 1 if not not not not not not known", -1);
        lawFault("as 1 if not not not not not not not known", 32);
        lawFault("as 1 if ((((((known))))))", -1);
        lawFault("as 1 if (((((((known)))))))", 14);
        lawFault("as 1 if not(not(not(known)))", -1);
        lawFault("as 1 if not(not(not(not known)))", 20);
        lawFault("as 1 if not(not(not(known and(known))))", 29);
        lawFault("as 1 if not not not not not not known and not not not not not not known", -1);
        lawFault("as 1 if (((known)or((known)or((known)or(known)))))", -1);
        lawFault("as 1 if (((known)or((known)or((known)or(not known)))))", -1);
        lawFault("as 1 if (((known)or((known)or((known)or(not not known)))))", 44);
    }

    private static void faultStays() {
        SaidOnce x = Check.made(ONE);
        Check.schoolFault(x, "bell");
        CHECK.due("fault of a text", x.fault(), 0);
        Check.tape(x, 7);
        CHECK.thrown("what of a wrong tape", IllegalArgumentException.class, () -> x.what(0));
        CHECK.due("a tape of what is no text", x.fault(), 0);
        CHECK.due("right law", Check.law(x, "as 1"), 1);
        CHECK.due("fault of the latest", x.fault(), -1);
    }
}
