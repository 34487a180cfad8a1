import java.util.concurrent.Callable;

/** What the tests share: feeding texts, naming exceptions, and counting answers that are not the ones due. */
final class Check {
    private final String name;
    private int asked;
    private int wrong;

    Check(String name) {
        this.name = name;
    }

    void due(String call, long got, long want) {
        asked++;
        if (got != want) {
            wrong++;
            System.out.println(name + ": " + call + " answered " + got + ", due is " + want);
        }
    }

    void due(String call, boolean got, boolean want) {
        due(call, got ? 1 : 0, want ? 1 : 0);
    }

    /** The call must throw this exception and no other. */
    void thrown(String call, Class<? extends Exception> want, Callable<?> body) {
        asked++;
        String got = outcome(body);
        if (!got.equals(want.getName())) {
            wrong++;
            System.out.println(name + ": " + call + " gave " + got + ", due is " + want.getName());
        }
    }

    /** What a call answered, or the name of what it threw. */
    static String outcome(Callable<?> body) {
        try {
            Object got = body.call();
            return got instanceof Boolean ? ((Boolean) got ? "1" : "0") : String.valueOf(got);
        } catch (Exception e) {
            return e.getClass().getName();
        }
    }

    void finish() {
        System.out.println(name + ": " + asked + " answers, " + wrong + " not as due");
        if (wrong != 0) {
            System.exit(1);
        }
    }

    static void tape(SaidOnce x, int... bytes) {
        x.end(0);
        int[] five = new int[5];
        for (int at = 0; at < bytes.length; at += 20) {
            for (int k = 0; k < 20; k++) {
                int one = at + k < bytes.length ? bytes[at + k] : 0;
                five[k / 4] = five[k / 4] << 8 | one & 255;
            }
            x.feed(five[0], five[1], five[2], five[3], five[4]);
        }
        x.end(bytes.length);
    }

    static void tape(SaidOnce x, String text) {
        tape(x, text.chars().toArray());
    }

    static int school(SaidOnce x, String text) {
        tape(x, text);
        return x.school();
    }

    static int law(SaidOnce x, String text) {
        tape(x, text);
        return x.law();
    }

    static SaidOnce made(String... texts) {
        SaidOnce x = new SaidOnce();
        for (String text : texts) {
            school(x, text);
        }
        return x;
    }

    /** The first wrong byte of a text of the school, read into the object; NONE if it is right. */
    static int schoolFault(SaidOnce x, String text) {
        tape(x, text);
        outcome(x::school);
        return x.fault();
    }

    static int lawFault(SaidOnce x, String text) {
        tape(x, text);
        outcome(x::law);
        return x.fault();
    }
}
