import java.util.List;
import java.util.NoSuchElementException;

/**
 * What the tests of boundaries share. Each test stands for one sentence of the document, or for a part
 * of one; it quotes these words, so that none can be forgotten and none is made up.
 */
abstract class Bounds {
    interface Test {
        void run();
    }

    interface Build {
        void on(LifeKeys x);
    }

    interface Call {
        long on(LifeKeys x);
    }

    interface Yes {
        boolean on(LifeKeys x);
    }

    static final int NONE = -1;
    static final int MIN = Integer.MIN_VALUE;
    static final int MAX = Integer.MAX_VALUE;
    static final int FALSE = 0;
    static final int TRUE = 1;
    /** What {@link #publicOf} answers for a key that the class does not know. */
    static final int THROWN = -1000;

    private static final Document DOCUMENT = new Document();
    private static String sentence = "";
    private static int tests = 0;
    private static int asked = 0;
    private static int wrong = 0;

    static void test(int promise, String words, Test test) {
        run(Document.promise(promise), words, test);
    }

    static void terms(String words, Test test) {
        run(Document.TERMS, words, test);
    }

    static void run(String section, String words, Test test) {
        sentence = section + ", \"" + words + "\"";
        tests++;
        if (!DOCUMENT.quote(section, words)) {
            wrong("these words do not stand in the document");
        }
        try {
            test.run();
        } catch (RuntimeException e) {
            wrong("threw " + e);
        }
    }

    private static void wrong(String what) {
        wrong++;
        System.out.println(sentence + ": " + what);
    }

    /** Says what was found, and answers whether all was as due. */
    static boolean allAsDue() {
        for (String words : DOCUMENT.unquoted()) {
            wrong++;
            System.out.println("no test quotes: " + words);
        }
        if (DOCUMENT.promises() != 51) {
            wrong++;
            System.out.println("the document has " + DOCUMENT.promises() + " promises, not 51");
        }
        System.out.println(tests + " tests of a sentence each, " + asked + " answers asked for, " + wrong + " not as due");
        return wrong == 0;
    }

    static void is(String what, long got, long due) {
        asked++;
        if (got != due) {
            wrong(what + " answered " + got + ", due is " + due);
        }
    }

    static void is(String what, boolean got, boolean due) {
        is(what, got ? TRUE : FALSE, due ? TRUE : FALSE);
    }

    /** Refused with NONE (or -1), in a cupboard that has something of all, and nothing is changed by it. */
    static void none(String what, Call call) {
        refused(Twins::rich, what, NONE, call);
    }

    static void none(Build build, String what, Call call) {
        refused(build, what, NONE, call);
    }

    /** Refused with false, likewise. */
    static void no(String what, Yes call) {
        no(Twins::rich, what, call);
    }

    static void no(Build build, String what, Yes call) {
        refused(build, what, FALSE, x -> call.on(x) ? TRUE : FALSE);
    }

    /**
     * Of two cupboards that are built alike one gets the call: it answers as due, and whatever is asked
     * of both or done to both afterwards is answered alike, as if the call had not been.
     */
    static void refused(Build build, String what, long due, Call call) {
        for (int glance = 0; glance < Twins.GLANCES; glance++) {
            LifeKeys called = built(build);
            LifeKeys spared = built(build);
            is(what, call.on(called), due);
            List<String> one = Twins.look(called, glance);
            List<String> other = Twins.look(spared, glance);
            asked++;
            if (!one.equals(other)) {
                wrong(what + " is refused, but changes something: " + Twins.difference(one, other));
                return;
            }
        }
    }

    static LifeKeys built(Build build) {
        LifeKeys x = new LifeKeys();
        build.on(x);
        return x;
    }

    static LifeKeys rich() {
        return built(Twins::rich);
    }

    static LifeKeys with(int holders) {
        LifeKeys x = new LifeKeys();
        for (int i = 0; i < holders; i++) {
            x.holder();
        }
        return x;
    }

    static int rule(LifeKeys x, String text) {
        Texts.tape(x, text);
        return x.rule();
    }

    static int make(LifeKeys x, int root, String name) {
        Texts.tape(x, name);
        return x.make(root);
    }

    static long publicOf(LifeKeys x, int key) {
        try {
            return x.open(key);
        } catch (NoSuchElementException e) {
            return THROWN;
        }
    }

    /** Numbers next to 0 .. count less 1, far from it, and such as a shift or a narrow number would take for 0. */
    static int[] noSuch(int count) {
        return new int[] {-1, -2, count, count + 1, 256, 65536, MIN, MAX};
    }

    /** Bits of no set of so many HOLDERS: none at all, one that is not there yet, alone or with the others. */
    static int[] noSet(int holders) {
        int all = (1 << holders) - 1;
        return new int[] {0, 1 << holders, all | 1 << holders, 1 << 30 | 1, MIN, MIN | all, -1, MAX};
    }

    static String signs(char sign, int times) {
        StringBuilder made = new StringBuilder();
        for (int i = 0; i < times; i++) {
            made.append(sign);
        }
        return made.toString();
    }

    // ---- what is reckoned, the slow and plain way ----

    static int power(long base, int exponent) {
        long made = 1;
        for (int i = 0; i < exponent; i++) {
            made = made * base % 2039;
        }
        return (int) made;
    }

    static long nextY(long y) {
        return y * 6364136223846793005L + 1442695040888963407L;
    }

    static int[] curve(int secret, int need, long seed) {
        int[] a = new int[need];
        a[0] = secret;
        long y = seed;
        for (int j = 1; j < need; j++) {
            y = nextY(y);
            a[j] = (int) ((y >>> 33) % 1019);
        }
        return a;
    }

    static int valueAt(int[] a, int place) {
        long value = 0;
        long power = 1;
        for (int one : a) {
            value = (value + one * power) % 1019;
            power = power * place % 1019;
        }
        return (int) value;
    }

    /** Starts of those who sign together, of the lowest first. */
    static int[] starts(int many, long seed) {
        int[] t = new int[many];
        long y = seed;
        for (int i = 0; i < many; i++) {
            y = nextY(y);
            t[i] = (int) ((y >>> 33) % 1018) + 1;
        }
        return t;
    }

    static int rOf(int[] starts) {
        int r = 1;
        for (int t : starts) {
            r = r * power(4, t) % 2039;
        }
        return r;
    }

    static int cOf(int r, int digest) {
        return (r + 7 * digest) % 1019;
    }
}
