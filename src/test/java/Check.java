import java.util.Collections;
import java.util.concurrent.Callable;

/** What the tests share: feeding texts, naming exceptions, and counting answers that are not the ones due. */
final class Check {
    private final String name;
    private String sentence = "";
    private int asked;
    private int wrong;

    Check(String name) {
        this.name = name;
    }

    /** The words of the document that the answers behind this are due by. */
    void sentence(String words) {
        sentence = words;
    }

    void due(String call, long got, long want) {
        tell(call + " answered " + got + ", due is " + want, got == want);
    }

    void due(String call, boolean got, boolean want) {
        due(call, got ? 1 : 0, want ? 1 : 0);
    }

    void same(String call, String got, String want) {
        tell(call + " came to " + got + ", due is " + want, got.equals(want));
    }

    /** The call must throw this exception and no other. */
    void thrown(String call, Class<? extends Exception> want, Callable<?> body) {
        String got = outcome(body);
        tell(call + " gave " + got + ", due is " + want.getName(), got.equals(want.getName()));
    }

    private void tell(String fault, boolean isRight) {
        asked++;
        if (!isRight) {
            wrong++;
            System.out.println(name + ": " + fault + (sentence.isEmpty() ? "" : " [" + sentence + "]"));
        }
    }

    /** What a call answered, or the name of what it threw. */
    static String outcome(Callable<?> body) {
        try {
            Object got = body.call();
            return got instanceof Boolean ? ((Boolean) got ? "1" : "0") : String.valueOf(got);
        } catch (Exception e) {
            return e.getClass().getName();
        }
    }

    void finish() {
        System.out.println(name + ": " + asked + " answers, " + wrong + " not as due");
        if (wrong != 0) {
            System.exit(1);
        }
    }

    static void tape(SaidOnce x, int... bytes) {
        x.end(0);
        int[] five = new int[5];
        for (int at = 0; at < bytes.length; at += 20) {
            for (int k = 0; k < 20; k++) {
                int one = at + k < bytes.length ? bytes[at + k] : 0;
                five[k / 4] = five[k / 4] << 8 | one & 255;
            }
            x.feed(five[0], five[1], five[2], five[3], five[4]);
        }
        x.end(bytes.length);
    }

    static void tape(SaidOnce x, String text) {
        tape(x, text.chars().toArray());
    }

    static int school(SaidOnce x, String text) {
        tape(x, text);
        return x.school();
    }

    static int law(SaidOnce x, String text) {
        tape(x, text);
        return x.law();
    }

    static SaidOnce made(String... texts) {
        SaidOnce x = new SaidOnce();
        for (String text : texts) {
            school(x, text);
        }
        return x;
    }

    /** The first wrong byte of a text of the school, read into the object; NONE if it is right. */
    static int schoolFault(SaidOnce x, String text) {
        tape(x, text);
        outcome(x::school);
        return x.fault();
    }

    static int lawFault(SaidOnce x, String text) {
        tape(x, text);
        outcome(x::law);
        return x.fault();
    }

    /** The same line so many times. */
    static String lines(int n, String line) {
        return String.join(";", Collections.nCopies(n, line));
    }

    /** Whether the tape has just so many bytes; they stay there. */
    static boolean tapeHas(SaidOnce x, int n) {
        return !x.end(n + 1) && x.end(n);
    }

    /** All that can be asked of a small school, but for the tape, fault() and the image; it leaves all as it was. */
    static String digest(SaidOnce x) {
        return x.count(11) + " " + state(x);
    }

    /** The same but for the acts that are remembered. */
    static String state(SaidOnce x) {
        StringBuilder s = new StringBuilder();
        for (int what = 0; what < 11; what++) {
            s.append(x.count(what)).append(' ');
        }
        int things = x.count(0);
        int people = x.count(1);
        for (int t = 0; t < things; t++) {
            s.append("/t");
            for (int what = 0; what < 3; what++) {
                s.append(x.thing(t, what)).append(' ');
            }
        }
        for (int p = 0; p < people; p++) {
            s.append("/p");
            for (int what = 0; what < 6; what++) {
                s.append(x.person(p, what)).append(' ');
            }
        }
        return s.append(restOf(x, things, people)).toString();
    }

    private static String restOf(SaidOnce x, int things, int people) {
        StringBuilder s = new StringBuilder();
        for (int k = 0; k < x.count(2); k++) {
            s.append("/r").append(x.rule(k, 0)).append(x.rule(k, 1)).append(x.rule(k, 2));
        }
        for (int ago = 0; ago < x.count(10); ago++) {
            s.append("/l");
            for (int what = 0; what < 5; what++) {
                s.append(x.log(ago, what)).append(' ');
            }
            for (int p = 0; p < people; p++) {
                s.append(x.learnt(ago, p)).append(' ');
            }
        }
        for (int p = 0; p < people && things > 0; p++) {
            s.append("/h");
            for (int q = 0; q < people; q++) {
                s.append(p == q ? "" : x.hears(p, things - 1, 0, q) + " ");
            }
        }
        int seed = x.seed(0);
        x.seed(seed);
        return s.append("/s").append(seed).append('/').append(x.store()).toString();
    }
}
