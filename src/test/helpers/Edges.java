import java.util.HashSet;
import java.util.NoSuchElementException;
import java.util.Set;

/**
 * Tests of boundaries, one for each sentence of the document that names one: each says its promise's number and the
 * sentence, and stands on objects of its own.
 */
abstract class Edges {
    static final int NONE = OneJoy.NONE;
    static final int HIDDEN = OneJoy.HIDDEN;
    /** What an asked house answers here when the call throws, as the document wants. */
    static final int NO_SUCH = -77;
    static final String TWELVE = "d;d;d;d;d;d;d;d;d;d;d;d";
    /** It goes round: 0, 1, 2, 3, 4, 0. */
    static final String RING = "d;d;d;d;d;wo1;wa1b2o1;wa2b3o1;wa3b4o1;wa4b0o1";
    private static final int PROMISES = 43;

    private static final Set<String> names = new HashSet<>();
    private static final int[] tests = new int[PROMISES + 1];
    private static int all = 0;
    private static int wrong = 0;
    private static String now = "";

    interface Answer {
        long get();
    }

    interface Steps {
        void run();
    }

    static void edge(int promise, String sentence, Steps steps) {
        now = "promise " + promise + ": " + sentence;
        if (promise < 1 || promise > PROMISES || !names.add(now)) {
            tell("is no test of its own");
            return;
        }
        tests[promise]++;
        all++;
        try {
            steps.run();
        } catch (RuntimeException e) {
            tell("threw " + e);
        }
    }

    static void edge(int promise, String sentence, long want, Answer answer) {
        edge(promise, sentence, () -> due(want, answer.get()));
    }

    private static void tell(String what) {
        wrong++;
        System.out.println(now + ": " + what);
    }

    static void due(long want, long got) {
        if (got != want) {
            tell("answered " + got + ", due is " + want);
        }
    }

    static void due(String want, String got) {
        if (!got.equals(want)) {
            tell("was\n  " + got + ", due is\n  " + want);
        }
    }

    static void yes(boolean got) {
        due(1, bit(got));
    }

    static void no(boolean got) {
        due(0, bit(got));
    }

    static long bit(boolean is) {
        return is ? 1 : 0;
    }

    /** Ends the run of one class of tests, which has to hold some for each of its promises. */
    static void finish(int... promises) {
        for (int promise : promises) {
            if (tests[promise] == 0) {
                now = "promise " + promise;
                tell("has no test");
            }
        }
        System.out.println(all + " boundaries, " + wrong + " not as due");
        if (wrong != 0) {
            System.exit(1);
        }
    }

    static void feed(OneJoy joy, String text) {
        for (int i = 0; i < text.length(); i += 20) {
            int[] n = new int[5];
            for (int k = 0; k < 20; k++) {
                n[k / 4] = n[k / 4] << 8 | (i + k < text.length() ? text.charAt(i + k) : 0);
            }
            joy.feed(n[0], n[1], n[2], n[3], n[4]);
        }
    }

    static OneJoy fed(String text) {
        OneJoy joy = new OneJoy();
        feed(joy, text);
        return joy;
    }

    static OneJoy village(String text) {
        OneJoy joy = fed(text);
        if (joy.text(0) < 1) {
            tell("'" + text + "' is no village");
        }
        return joy;
    }

    static void holdLaw(OneJoy joy, String text) {
        feed(joy, text);
        if (!joy.law(joy.text(1)) || joy.count(4) == NONE) {
            tell("'" + text + "' is no law");
        }
    }

    static OneJoy villageBy(String law, String text) {
        OneJoy joy = village(text);
        holdLaw(joy, law);
        return joy;
    }

    static int house(OneJoy joy, int house, int what) {
        try {
            return joy.house(house, what);
        } catch (NoSuchElementException e) {
            return NO_SUCH;
        }
    }

    /** A village at a late hour, each call of go within its bounds. */
    static OneJoy atHour(int hour, String text) {
        OneJoy joy = village(text);
        for (int left = hour - joy.count(5); left > 0; left -= 240) {
            joy.go(Math.min(left, 240));
        }
        due(hour, joy.count(5));
        return joy;
    }

    /** All that a village and what goes with it can be asked for; its acts are undone by this, one by one. */
    static String told(OneJoy joy) {
        StringBuilder b = new StringBuilder();
        counts(joy, b);
        for (int h = 0; h < joy.count(0); h++) {
            b.append(" house ").append(h).append(" wish ").append(joy.wish(h));
            for (int what = 0; what < 7; what++) {
                b.append(' ').append(house(joy, h, what));
            }
        }
        for (int w = 0; w < joy.count(1); w++) {
            b.append(" window ").append(w);
            for (int what = 0; what < 4; what++) {
                b.append(' ').append(joy.window(w, what));
            }
        }
        b.append(" faults ").append(joy.fault(0)).append(' ').append(joy.fault(1));
        b.append(" envied ").append(joy.envied(NONE)).append(' ').append(joy.sure());
        log(joy, b);
        while (joy.undo() != NONE) {
            b.append(" undone:");
            counts(joy, b);
        }
        b.append(" back ").append(joy.back());
        counts(joy, b);
        log(joy, b);
        return b.toString();
    }

    private static void counts(OneJoy joy, StringBuilder b) {
        for (int what = 0; what < 15; what++) {
            b.append(' ').append(joy.count(what));
        }
    }

    private static void log(OneJoy joy, StringBuilder b) {
        b.append(" log");
        for (int i = 0; i < joy.count(13) && i < 9; i++) {
            b.append(' ').append(joy.log(i));
        }
    }

    static String many(String part, int n) {
        return part.repeat(Math.max(0, n));
    }
}
