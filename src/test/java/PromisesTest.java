import java.util.NoSuchElementException;

/** Each promise by ordinary inputs, by the edges that the document names, and by wrong inputs. */
public final class PromisesTest {
    private static final int NONE = LifeKeys.NONE;
    private static final int MIN = Integer.MIN_VALUE;
    private static final int MAX = Integer.MAX_VALUE;
    private static int wrong = 0;
    private static int asked = 0;
    private static int promise = 0;

    private static void is(String what, long got, long want) {
        asked++;
        if (got != want) {
            wrong++;
            System.out.println("promise " + promise + ": " + what + " answered " + got + ", due is " + want);
        }
    }

    private static void is(String what, boolean got, boolean want) {
        is(what, got ? 1 : 0, want ? 1 : 0);
    }

    private static void none(String what, long got) {
        is(what, got, NONE);
    }

    private static LifeKeys with(int holders) {
        LifeKeys x = new LifeKeys();
        for (int i = 0; i < holders; i++) {
            x.holder();
        }
        return x;
    }

    private static void tape(LifeKeys x, String text) {
        Texts.tape(x, text);
        is("bytes of " + text, x.count(11), text.length());
    }

    private static int rule(LifeKeys x, String text) {
        tape(x, text);
        return x.rule();
    }

    private static boolean opens(LifeKeys x, int key) {
        try {
            x.open(key);
            return true;
        } catch (NoSuchElementException e) {
            return false;
        }
    }

    private static void newObject() {
        promise = 1;
        LifeKeys x = new LifeKeys();
        for (int what = 0; what < 14; what++) {
            is("count " + what, x.count(what), 0);
        }
        is("holder of a second object", new LifeKeys().holder(), 0);
        none("NONE", LifeKeys.NONE);
    }

    private static void days() {
        promise = 2;
        LifeKeys x = new LifeKeys();
        is("days 0", x.days(0), 0);
        none("days -1", x.days(-1));
        none("days 1001", x.days(1001));
        none("days MAX", x.days(MAX));
        none("days MIN", x.days(MIN));
        is("days 1000", x.days(1000), 1000);
        is("days 999", x.days(999), 1999);
        none("days 2 beyond 2000", x.days(2));
        is("still", x.count(0), 1999);
        is("to 2000", x.days(1), 2000);
        none("beyond", x.days(1));
        is("none more", x.days(0), 2000);
    }

    private static void holders() {
        promise = 3;
        LifeKeys x = new LifeKeys();
        for (int i = 0; i < 12; i++) {
            is("holder", x.holder(), i);
        }
        none("a thirteenth", x.holder());
        is("count", x.count(1), 12);
    }

    private static void keys() {
        promise = 4;
        LifeKeys x = new LifeKeys();
        none("0", x.key(0, false));
        none("1019", x.key(1019, false));
        none("MIN", x.key(MIN, true));
        is("first", x.key(1, false), 0);
        is("second", x.key(1018, true), 1);
        is("sort", x.told(0, 0), 0);
        is("sort", x.told(1, 0), 1);
        for (int i = 2; i < 40; i++) {
            is("key", x.key(i, false), i);
        }
        none("there are 40", x.key(5, false));
        is("count", x.count(2), 40);
    }

    private static void feed() {
        promise = 5;
        LifeKeys x = new LifeKeys();
        is("all zero", x.feed(0, 0, 0, 0, 0), 0);
        is("zeros within", x.feed(0x00680031, 0, -1, 0, 0x00000020), 7);
        x.end(0);
        for (int i = 1; i <= 7; i++) {
            is("feed", x.feed(0x68682020, 0x68682020, 0x68682020, 0x68682020, 0x68682020), 20 * i);
        }
        is("to 159", x.feed(-1, -1, -1, -1, 0x01010100), 159);
        none("to 161", x.feed(0x01010000, 0, 0, 0, 0));
        is("unchanged", x.count(11), 159);
        is("to 160", x.feed(0, 0, 0, 0, 1), 160);
        is("nothing more", x.feed(0, 0, 0, 0, 0), 160);
        none("to 161", x.feed(0x01000000, 0, 0, 0, 0));
        none("to 161", x.feed(0, 1, 0, 0, 0));
        none("to 161", x.feed(0, 0, 0x100, 0, 0));
        none("to 161", x.feed(0, 0, 0, 0x10000, 0));
        none("to 164", x.feed(0, 0, 0, 0, -1));
        is("unchanged", x.count(11), 160);
        // The highest byte comes first: h1 is a rule, 1h is not.
        x.end(0);
        x.feed(0x68310000, 0, 0, 0, 0);
        none("h1", x.fault());
        x.end(0);
        x.feed(0x31680000, 0, 0, 0, 0);
        is("1h", x.fault(), 1);
        x.end(0);
        x.feed(0x68, 0x31, 0, 0, 0);
        none("h1 in two numbers", x.fault());
    }

    private static void end() {
        promise = 6;
        LifeKeys x = new LifeKeys();
        is("0 of 0", x.end(0), true);
        is("1 of 0", x.end(1), false);
        tape(x, "h1&h12");
        is("7 of 6", x.end(7), false);
        is("-1", x.end(-1), false);
        is("MIN", x.end(MIN), false);
        is("unchanged", x.count(11), 6);
        is("6 of 6", x.end(6), true);
        is("fault", x.fault(), 5);
        is("5 of 6", x.end(5), true);
        none("fault", x.fault());
        is("length", x.count(11), 5);
    }

    private static void make() {
        promise = 7;
        LifeKeys x = new LifeKeys();
        x.key(5, false);
        x.key(10, true);
        none("empty tape", x.make(1));
        tape(x, "a");
        none("a plain one", x.make(0));
        none("no such key", x.make(2));
        none("no such key", x.make(-1));
        is("the tape stays", x.count(11), 1);
        is("made", x.make(1), 2);
        is("the tape is empty", x.count(11), 0);
        // 37 * 10 + 97 = 467, and 1: 468
        is("public", x.open(2), power(4, 468));
        tape(x, "a");
        none("a made one is no root", x.make(2));
        tape(x, "ab" + (char) 255);
        x.make(1);
        int h = ((97 * 131 + 98) % 1019 * 131 + 255) % 1019;
        is("public", x.open(3), power(4, (370 + h) % 1018 + 1));
        tape(x, "1234567890123456789012345678901234567890");
        is("40 bytes", x.make(1), 4);
        tape(x, "12345678901234567890123456789012345678901");
        none("41 bytes", x.make(1));
        is("the tape stays", x.count(11), 41);
        while (x.count(2) < 40) {
            x.key(1, false);
        }
        tape(x, "a");
        none("there are 40", x.make(1));
        is("the tape stays", x.count(11), 1);
    }

    private static int power(long base, int exponent) {
        long made = 1;
        for (int i = 0; i < exponent; i++) {
            made = made * base % 2039;
        }
        return (int) made;
    }

    private static void open() {
        promise = 8;
        LifeKeys x = new LifeKeys();
        is("none yet", opens(x, 0), false);
        x.key(1, false);
        x.key(6, true);
        x.key(1018, true);
        is("4", x.open(0), 4);
        is("4096 less 2 * 2039 = 18", x.open(1), 18);
        is("1 by 4", x.open(2) * 4 % 2039, 1);
        is("no such", opens(x, 3), false);
        is("no such", opens(x, -1), false);
        is("no such", opens(x, MIN), false);
        is("no such", opens(x, MAX), false);
    }

    private static void told() {
        promise = 9;
        LifeKeys x = with(2);
        x.key(5, false);
        x.key(6, true);
        tape(x, "n");
        x.make(1);
        for (int key = 0; key < 3; key++) {
            is("sort", x.told(key, 0), key);
            is("root", x.told(key, 1), key == 2 ? 1 : NONE);
            none("burnt", x.told(key, 2));
            none("old", x.told(key, 3));
            none("parting", x.told(key, 4));
            none("5", x.told(key, 5));
            none("-1", x.told(key, -1));
        }
        none("no such key", x.told(3, 0));
        none("no such key", x.told(-1, 0));
        x.days(3);
        x.burn(0, 9);
        is("burnt from a later day", x.told(0, 2), 9);
        x.burn(0, 7);
        x.burn(0, 8);
        is("the least", x.told(0, 2), 7);
        none("another", x.told(1, 2));
        x.old(1);
        x.days(1);
        is("old", x.told(1, 3), 3);
        x.part(0, 1, 1, 1);
        x.part(0, 3, 2, 1);
        x.part(1, 3, 2, 1);
        is("last", x.told(0, 4), 1);
        x.again(1, 5);
        x.again(3, 5);
        x.again(4, 5);
        is("last, though the elder ones of its kind are out", x.told(0, 4), 5);
        x.again(0, 5);
        is("last", x.told(0, 4), 6);
        is("another", x.told(1, 4), 2);
        LifeKeys y = with(1);
        y.key(5, false);
        y.part(0, 1, 1, 1);
        is("the first", y.told(0, 4), 0);
    }

    private static void giveAndTake() {
        promise = 10;
        LifeKeys x = with(2);
        x.key(5, false);
        is("no such holder", x.give(2, 0), false);
        is("no such holder", x.give(-1, 0), false);
        is("no such key", x.give(0, 1), false);
        is("no such key", x.give(0, -1), false);
        is("no such key", x.give(0, MIN), false);
        x.days(2);
        is("give", x.give(0, 0), true);
        is("it has it", x.give(0, 0), false);
        is("another may have it too", x.give(1, 0), true);
        is("the day before", x.got(3, 1), 0);
        is("that day", x.got(1, 2), 1);
        promise = 11;
        x.days(2);
        is("no such holder", x.take(2, 0), false);
        is("no such key", x.take(0, 1), false);
        is("no such", x.take(-1, -1), false);
        is("no such holder", x.take(-1, 0), false);
        is("no such holder", x.take(12, 0), false);
        is("no such key", x.take(0, 64), false);
        is("take", x.take(0, 0), true);
        is("it does not have it", x.take(0, 0), false);
        is("that day not any more", x.got(1, 4), 0);
        is("the day before", x.got(1, 3), 1);
        is("the other has it", x.got(2, 4), 1);
        x.days(2);
        is("give again", x.give(0, 0), true);
        is("between", x.got(1, 5), 0);
        is("again", x.got(1, 6), 1);
        is("take on the same day", x.take(0, 0), true);
        is("not that day", x.got(1, 6), 0);
        is("as before", x.got(1, 3), 1);
    }

    private static void wraps() {
        promise = 12;
        LifeKeys x = with(1);
        for (int i = 0; i < 4; i++) {
            x.key(5 + i, false);
        }
        none("alike", x.wrap(1, 1));
        none("no inner", x.wrap(4, 0));
        none("no outer", x.wrap(0, 4));
        none("no outer", x.wrap(0, -1));
        none("no inner", x.wrap(-1, 0));
        x.give(0, 3);
        x.days(1);
        is("wrap", x.wrap(0, 1), 0);
        is("wrap", x.wrap(1, 2), 1);
        is("wrap", x.wrap(2, 3), 2);
        is("one in the other in the other", x.got(1, 1), 15);
        is("the day before", x.got(1, 0), 8);
        is("round", x.wrap(3, 0), 3);
        is("round", x.got(1, 1), 15);
        promise = 13;
        is("no such", x.cut(4), false);
        is("no such", x.cut(-1), false);
        x.days(1);
        is("count", x.count(4), 4);
        is("cut", x.cut(1), true);
        is("it is", x.cut(1), false);
        is("count", x.count(4), 3);
        is("that day", x.got(1, 2), 12);
        is("the day before", x.got(1, 1), 15);
        is("wrapped anew", x.wrap(1, 2), 4);
        is("that day", x.got(1, 2), 15);
        is("cut the same day", x.cut(4), true);
        is("that day", x.got(1, 2), 12);
        promise = 12;
        for (int i = 5; i < 40; i++) {
            is("wrap", x.wrap(0, 1), i);
        }
        none("there are 40, cut ones too", x.wrap(0, 1));
    }

    private static void partings() {
        promise = 14;
        LifeKeys x = with(12);
        x.key(5, false);
        x.key(6, true);
        none("no such key", x.part(2, 1, 1, 1));
        none("no such key", x.part(-1, 1, 1, 1));
        none("no holders", x.part(0, 0, 1, 1));
        none("no such holder", x.part(0, 1 << 12, 1, 1));
        none("no such holder", x.part(0, MIN, 1, 1));
        none("need 0", x.part(0, 7, 0, 1));
        none("need 4", x.part(0, 7, 4, 1));
        none("need MIN", x.part(0, 7, MIN, 1));
        is("all of twelve", x.part(0, 4095, 12, -9L), 0);
        is("one", x.part(1, 2048, 1, 3L), 1);
        is("the secret itself", x.piece(1, 11), 6);
        long y = -9L;
        int[] a = new int[12];
        a[0] = 5;
        for (int j = 1; j < 12; j++) {
            y = y * 6364136223846793005L + 1442695040888963407L;
            a[j] = (int) ((y >>> 33) % 1019);
        }
        promise = 16;
        for (int i = 0; i < 12; i++) {
            long value = 0;
            for (int j = 11; j >= 0; j--) {
                value = (value * (i + 1) + a[j]) % 1019;
            }
            is("piece " + i, x.piece(0, i), value);
            is("fits " + i, x.fits(0, i, (int) value), 1);
            is("does not fit " + i, x.fits(0, i, (int) (value + 1) % 1019), 0);
        }
        none("none of its holders", x.piece(1, 0));
        none("no such parting", x.piece(2, 0));
        none("no such parting", x.piece(-1, 0));
        none("no such holder", x.piece(0, 12));
        none("no such holder", x.piece(0, -1));
        none("no such holder", x.piece(0, 32));
        promise = 17;
        for (int j = 0; j < 12; j++) {
            is("check " + j, x.checks(0, j), power(4, a[j]));
        }
        none("no such j", x.checks(0, 12));
        none("no such j", x.checks(0, -1));
        none("no such j", x.checks(1, 1));
        none("no such parting", x.checks(2, 0));
        promise = 18;
        none("number", x.fits(0, 0, 1019));
        none("number", x.fits(0, 0, -1));
        none("none of its holders", x.fits(1, 0, 6));
        none("no such parting", x.fits(2, 11, 6));
        none("no such holder", x.fits(0, 12, 6));
        is("edge", x.fits(1, 11, 0), 0);
        is("edge", x.fits(1, 11, 1018), 0);
        promise = 14;
        for (int i = 2; i < 40; i++) {
            is("part", x.part(0, 3, 2, i), i);
        }
        none("there are 40", x.part(0, 3, 2, 1));
        promise = 15;
        none("there are 40", x.again(0, 1));
        is("not OUT by that", x.told(1, 4), 1);
        is("in force", x.better(0), 12);
    }

    private static void again() {
        promise = 15;
        LifeKeys x = with(3);
        x.key(5, false);
        none("no such", x.again(0, 1));
        none("no such", x.again(-1, 1));
        is("part", x.part(0, 7, 2, 5), 0);
        x.days(4);
        is("again", x.again(0, 9), 1);
        none("it is OUT", x.again(0, 9));
        is("same need", x.left(1, 1), 1);
        is("the same holders", x.piece(1, 2) != NONE, true);
        is("another curve", x.piece(0, 0) == x.piece(1, 0), false);
        is("the elder part fits its own", x.fits(0, 0, x.piece(0, 0)), 1);
        is("not the younger", x.fits(1, 0, x.piece(0, 0)), 0);
        x.lay(0, x.piece(0, 0));
        x.lay(1, x.piece(1, 1));
        is("elder and younger do not join", x.join() == 5, false);
        x.lay(0, x.piece(1, 0));
        x.lay(1, x.piece(1, 1));
        is("the younger do", x.join(), 5);
        is("a third", x.again(1, 10), 2);
        is("got before", x.got(3, 3), 1);
        is("got now", x.got(3, 4), 1);
        is("need as before", x.checks(2, 1) != NONE, true);
        none("need as before", x.checks(2, 2));
    }

    private static void bench() {
        promise = 19;
        LifeKeys x = with(12);
        none("number", x.lay(0, -1));
        none("number", x.lay(0, 1019));
        none("no such holder", x.lay(12, 1));
        none("no such holder", x.lay(-1, 1));
        promise = 20;
        none("empty", x.join());
        promise = 19;
        is("lay", x.lay(11, 1018), 1);
        none("lies there", x.lay(11, 1018));
        promise = 20;
        is("one alone is a flat curve", x.join(), 1018);
        is("empty", x.count(12), 0);
        none("empty", x.join());
        // 3 + 2 x + x x at 2, 5 and 9 is 11, 38 and 102
        x.lay(4, 38);
        x.lay(1, 11);
        is("three", x.lay(8, 102), 3);
        is("count", x.count(12), 3);
        is("joined", x.join(), 3);
        // of 7 + 500 x, told at 12 places: the curve is of lowest degree
        for (int i = 0; i < 12; i++) {
            is("lay", x.lay(i, (7 + 500 * (i + 1)) % 1019), i + 1);
        }
        is("joined", x.join(), 7);
        is("may lie again", x.lay(11, 0), 1);
        is("zero", x.join(), 0);
    }

    private static void left() {
        promise = 21;
        LifeKeys x = with(6);
        x.key(5, false);
        x.part(0, 0b11110, 3, 1);
        is("none of them", x.left(0, 0b100001), 3);
        is("one of them", x.left(0, 0b100011), 2);
        is("three", x.left(0, 0b01110), 0);
        is("four: 0 at least", x.left(0, 0b11110), 0);
        none("no holders", x.left(0, 0));
        none("no such holders", x.left(0, 64));
        none("no such holders", x.left(0, -1));
        none("no such parting", x.left(1, 1));
        none("no such parting", x.left(-1, 1));
        x.again(0, 2);
        is("of one that is OUT", x.left(0, 2), 2);
    }

    private static void got() {
        promise = 22;
        LifeKeys x = with(4);
        x.key(5, true);
        x.part(0, 0b0111, 2, 1);
        x.days(5);
        tape(x, "n");
        x.make(0);
        x.key(7, false);
        x.wrap(2, 1);
        is("two of them", x.got(0b0101, 5), 7);
        is("one and another", x.got(0b1001, 5), 0);
        is("keys told later are not got", x.got(0b0101, 4), 1);
        none("no holders", x.got(0, 5));
        none("no such holders", x.got(16, 5));
        none("no such holders", x.got(MIN, 5));
        none("a day to come", x.got(1, 6));
        none("day", x.got(1, -1));
        x.again(0, 2);
        is("the younger is in force from its day", x.got(0b0101, 5), 7);
        is("the elder before", x.got(0b0101, 4), 1);
        x.part(2, 0b1000, 1, 1);
        is("inner without outer", x.got(0b1000, 5), 4);
        while (x.count(2) < 40) {
            x.key(3, false);
        }
        x.give(3, 39);
        is("the highest bit", x.got(0b1000, 5), 4 | 1L << 39);
        is("on the day of a parting, and before", x.got(0b1000, 4), 0);
        longestChain();
    }

    /** Each key lies in the one before it, and the wraps are told from the innermost on. */
    private static void longestChain() {
        LifeKeys x = with(2);
        for (int i = 0; i < 40; i++) {
            x.key(1 + i, false);
        }
        for (int i = 39; i > 0; i--) {
            x.wrap(i, i - 1);
        }
        x.give(1, 0);
        is("all", x.got(2, 0), (1L << 40) - 1);
        is("none", x.got(1, 0), 0);
        is("least", x.least(39, 1), 1);
        is("first", x.first(39, 0), 2);
        x.fall(2);
        is("order", x.order(0, 39), 39);
        none("no more", x.order(0, 40));
    }

    private static void fault(LifeKeys x, String text, int want) {
        tape(x, text);
        is("fault of '" + text + "'", x.fault(), want);
        is("the tape stays", x.count(11), text.length());
    }

    private static void faults() {
        promise = 23;
        LifeKeys x = new LifeKeys();
        is("nothing", x.fault(), 0);
        fault(x, "  ", 2);
        for (String good : new String[] {"h0", "n11", "d011", "w999", "w0", "0{h1}", "999{h1}", " 2 { h 1 , n 2 | d 3 } ",
            "!h1", "! ! h1", "(h1)", "((((((((h1))))))))", "!!!!!!!!h1", "1{1{1{1{1{1{1{1{h1}}}}}}}}",
            "!(!(!(!(h1))))", "!!!!!!!!h1&!!!!!!!!h2|(((((((!h3)))))))", "h1&h2|h3&h4", "h1  |  h2", "3{h1|h2&h3,(h4)}"}) {
            fault(x, good, NONE);
        }
        x = new LifeKeys();
        fault(x, "h12", 2);
        fault(x, "h99&", 2);
        fault(x, "h123", 3);
        fault(x, "h0012", 4);
        fault(x, "n012", 3);
        fault(x, "d 20 ", 3);
        fault(x, "w1000", 4);
        fault(x, "w0001", 4);
        fault(x, "w12345", 4);
        fault(x, "1000{h1}", 3);
        fault(x, "h", 1);
        fault(x, "h ", 2);
        fault(x, "hx", 1);
        fault(x, "x", 0);
        fault(x, "H1", 0);
        fault(x, "h-1", 1);
        fault(x, "h1 2", 3);
        fault(x, "h1h2", 2);
        fault(x, "h1,h2", 2);
        fault(x, "h1)", 2);
        fault(x, "h1}", 2);
        fault(x, "(h1", 3);
        fault(x, "(h1}", 3);
        fault(x, "1{h1,!!!!!!!!h2}", 12);
        fault(x, "1{h1,!!!!!!!h2}", NONE);
        x = new LifeKeys();
        fault(x, "(h1,h2)", 3);
        fault(x, "()", 1);
        fault(x, "2{}", 2);
        fault(x, "2{h1,}", 5);
        fault(x, "2{h1)", 4);
        fault(x, "2{h1", 4);
        fault(x, "2(h1)", 1);
        fault(x, "2 3{h1}", 2);
        fault(x, "12", 2);
        fault(x, "{h1}", 0);
        fault(x, "h1&&h2", 3);
        fault(x, "h1|", 3);
        fault(x, "|h1", 0);
        fault(x, "!", 1);
        fault(x, "h1!", 2);
        fault(x, "h1" + (char) 233, 2);
        fault(x, "h1\t", 2);
        x = new LifeKeys();
        fault(x, "!!!!!!!!!h1", 8);
        fault(x, "(((((((((h1", 8);
        fault(x, "((((((((2{h1}))))))))", 9);
        fault(x, "((((((((2 {h1}))))))))", 10);
        fault(x, "((((((((2h1))))))))", 9);
        fault(x, "!(1{!(1{!(!h1)})})", 10);
        fault(x, "1{1{1{1{1{1{1{1{!h1}}}}}}}}", 16);
        fault(x, "h1&!!!!!!!!h2&!!!!!!!!!h3", 22);
        fault(x, "((((((((h1)))))))&h2)|(h3", 25);
    }

    private static void rules() {
        promise = 24;
        LifeKeys x = with(1);
        none("empty", x.rule());
        tape(x, "h12");
        none("a fault", x.rule());
        is("the tape stays", x.count(11), 3);
        is("no rule", x.count(5), 0);
        for (int i = 0; i < 20; i++) {
            is("rule", rule(x, i % 2 == 0 ? "h0" : "!h0"), i);
            is("the tape is empty", x.count(11), 0);
        }
        none("there are 20", rule(x, "h0"));
        is("the tape stays", x.count(11), 2);
        is("count", x.count(5), 20);
        for (int i = 0; i < 20; i++) {
            x.seal(1, i, true);
            is("each is its own text", x.may(i, 0, 0), i % 2);
        }
        x = with(1);
        StringBuilder longest = new StringBuilder("w999");
        while (longest.length() < 160) {
            longest.append("|h0 ");
        }
        is("160 bytes", rule(x, longest.toString()), 0);
        x.seal(1, 0, true);
        is("does not hold", x.may(0, 0, 0), 0);
        x.say(0, 0, true);
        is("holds", x.may(0, 0, 0), 1);
    }

    private static void deaths() {
        promise = 25;
        LifeKeys x = with(3);
        is("no such rule", x.death(0, 0), false);
        rule(x, "h1");
        rule(x, "!h1");
        is("no such holder", x.death(3, 0), false);
        is("no such holder", x.death(-1, 0), false);
        is("no such rule", x.death(0, 2), false);
        is("no such rule", x.death(0, -1), false);
        is("not dead without a rule", x.dead(0, 0, 0), 0);
        x.days(5);
        is("death", x.death(0, 1), true);
        is("not known then", x.dead(0, 5, 4), 0);
        is("holds for elder days", x.dead(0, 0, 5), 1);
        x.days(1);
        is("death", x.death(0, 0), true);
        is("told last", x.dead(0, 6, 6), 0);
        is("as known before", x.dead(0, 6, 5), 1);
        is("the same day", x.death(0, 1), true);
        is("told last", x.dead(0, 6, 6), 1);
        for (int i = 3; i < 40; i++) {
            is("death", x.death(i % 3, 0), true);
        }
        is("there were 40", x.death(0, 0), false);
        promise = 31;
        none("no such holder", x.dead(3, 0, 0));
        none("no such holder", x.dead(-1, 0, 0));
        none("day", x.dead(0, -1, 0));
        none("day", x.dead(0, 2001, 0));
        is("day", x.dead(0, 2000, 0), 0);
        none("q", x.dead(0, 0, -1));
        none("q", x.dead(0, 0, 7));
    }

    private static void sealing() {
        promise = 26;
        LifeKeys x = with(1);
        none("no key", x.seal(1, 0, false));
        none("no rule", x.seal(1, 0, true));
        x.key(5, false);
        x.key(5, false);
        rule(x, "h0");
        none("digest", x.seal(-1, 0, false));
        none("digest", x.seal(1019, 0, false));
        is("to a key", x.seal(0, 1, false), 0);
        is("to a rule", x.seal(1018, 0, true), 1);
        none("no such rule", x.seal(0, 1, true));
        none("no such key", x.seal(0, 2, false));
        none("no such key", x.seal(0, -1, false));
        for (int i = 2; i < 40; i++) {
            is("seal", x.seal(i, 0, false), i);
        }
        none("there are 40", x.seal(1, 0, false));
        is("count", x.count(6), 40);
    }

    private static void sayings() {
        promise = 27;
        LifeKeys x = with(2);
        x.key(5, false);
        rule(x, "h0&!n0");
        rule(x, "n0&!h0");
        x.seal(1, 0, true);
        x.seal(1, 1, true);
        x.seal(1, 0, false);
        is("no such thing", x.say(0, 3, true), false);
        is("no such thing", x.say(0, -1, true), false);
        is("no such holder", x.say(2, 0, true), false);
        is("no such holder", x.say(-1, 0, true), false);
        is("of one that is sealed to a key", x.say(0, 2, true), true);
        is("nothing said", x.may(0, 0, 0) + x.may(1, 0, 0), 0);
        x.days(2);
        is("say", x.say(0, 0, true), true);
        is("say", x.say(0, 1, false), true);
        is("yes", x.may(0, 2, 2), 1);
        is("no", x.may(1, 2, 2), 1);
        is("not before", x.may(0, 1, 2) + x.may(1, 1, 2), 0);
        is("not known before", x.may(0, 2, 1) + x.may(1, 2, 1), 0);
        x.days(2);
        is("say", x.say(0, 0, false), true);
        is("the last word", x.may(0, 4, 4), 0);
        is("on an elder day", x.may(0, 3, 4), 1);
        is("as known before", x.may(0, 2000, 3), 1);
        is("say", x.say(0, 0, true), true);
        is("the last of a day", x.may(0, 4, 4), 1);
        promise = 28;
        is("alike", x.mourn(0, 0, true), false);
        is("no such", x.mourn(2, 0, true), false);
        is("no such", x.mourn(0, 2, true), false);
        is("no such", x.mourn(-1, 0, true), false);
        is("no such", x.mourn(0, -1, true), false);
        is("mourn", x.mourn(0, 1, true), true);
        is("of the death, not of a thing", x.may(1, 4, 4), 1);
        x.death(1, 0);
        is("dead", x.dead(1, 4, 4), 1);
        is("mourn", x.mourn(0, 1, false), true);
        is("not dead", x.dead(1, 4, 4), 0);
        x.death(1, 1);
        is("by no", x.dead(1, 4, 4), 1);
        is("count", x.count(7), 7);
        for (int i = 7; i < 200; i++) {
            is("say", i % 2 == 0 ? x.say(0, 0, true) : x.mourn(0, 1, true), true);
        }
        is("there were 200", x.mourn(0, 1, true), false);
        is("there were 200", x.say(0, 1, true), false);
        is("count", x.count(7), 200);
    }

    private static void asking() {
        promise = 29;
        LifeKeys x = with(1);
        x.key(5, false);
        rule(x, "w0");
        rule(x, "w3");
        x.seal(1, 0, true);
        x.seal(1, 1, true);
        x.seal(1, 0, false);
        is("no such", x.ask(3), false);
        is("no such", x.ask(-1), false);
        is("never asked", x.may(0, 2000, 0), 0);
        x.days(4);
        is("ask", x.ask(0), true);
        is("ask", x.ask(1), true);
        is("ask for what is sealed to a key", x.ask(2), true);
        x.days(1);
        is("it was", x.ask(0), false);
        promise = 30;
        is("not before", x.may(0, 3, 5), 0);
        is("that day", x.may(0, 4, 5), 1);
        is("not known", x.may(0, 4, 3), 0);
        is("2 days", x.may(1, 6, 5), 0);
        is("3 days", x.may(1, 7, 5), 1);
        is("as known when it was asked", x.may(1, 7, 4), 1);
        is("not known", x.may(1, 7, 3), 0);
        none("sealed to a key", x.may(2, 0, 0));
        none("no such thing", x.may(3, 0, 0));
        none("no such thing", x.may(-1, 0, 0));
        none("day", x.may(0, -1, 0));
        none("day", x.may(0, 2001, 0));
        none("q", x.may(0, 0, 6));
        none("q", x.may(0, 0, -1));
    }

    /** Whether a text holds when 0 said yes, 1 said no, 2 is dead, 3 said nothing, and 5 days went by. */
    private static void holding(String text, int want) {
        LifeKeys x = with(4);
        rule(x, "!n11");
        is("rule " + text, rule(x, text), 1);
        x.seal(1, 1, true);
        x.death(2, 0);
        x.say(0, 0, true);
        x.say(1, 0, false);
        x.ask(0);
        is(text, x.may(0, 5, 0), want);
    }

    private static void texts() {
        promise = 30;
        holding("h0", 1);
        holding("n0", 0);
        holding("h1", 0);
        holding("n1", 1);
        holding("h3", 0);
        holding("n3", 0);
        holding("h11|n11|d11", 0);
        holding("d2", 1);
        holding("d0|d1|d3", 0);
        holding("w5", 1);
        holding("w6", 0);
        holding("!h0", 0);
        holding("!!h0", 1);
        holding("h0|h1&h1", 1);
        holding("h1&h1|h0", 1);
        holding("(h0|h1)&h1", 0);
        holding("!h1&h0", 1);
        holding("!(h1&h0)", 1);
        holding("!(h0|h1)", 0);
        holding("0{h1}", 1);
        holding("1{h1,h0}", 1);
        holding("2{h1,h0}", 0);
        holding("2{h0,h1,n1}", 1);
        holding("3{h0,h0,h0}", 1);
        holding("4{h0,h0,h0}", 0);
        holding("2{h0&h1,h0|h1,d2}", 1);
        holding("2{1{h0},!2{h0,h1},h3}", 1);
        holding("!2{h0,n1}|h1", 0);
        holding("1{h1}|0{h1}", 1);
        deadOnes();
        promise = 31;
        LifeKeys x = with(3);
        rule(x, "d0|d1|d2");
        rule(x, "!d1");
        rule(x, "w2");
        x.death(0, 1);
        x.death(1, 0);
        is("d never holds there", x.dead(0, 0, 0), 1);
        is("d never holds there", x.dead(1, 0, 0), 0);
        x.death(2, 2);
        x.days(3);
        x.mourn(0, 2, false);
        is("a no does not begin the days", x.dead(2, 2000, 3), 0);
        x.days(1);
        x.mourn(0, 2, true);
        x.days(1);
        x.mourn(1, 2, true);
        x.mourn(0, 2, false);
        is("one day", x.dead(2, 5, 5), 0);
        is("two days since the first yes, though it was taken back", x.dead(2, 6, 5), 1);
        is("not known", x.dead(2, 6, 3), 0);
        is("not yet told on that day", x.dead(2, 3, 5), 0);
    }

    /** 0 is dead from day 2 as told on day 2, 1 from day 4; told that they live on day 6. */
    private static void deadOnes() {
        promise = 30;
        LifeKeys x = with(3);
        rule(x, "h2");
        rule(x, "d0&!d1");
        rule(x, "d0&d1");
        rule(x, "w0|w1");
        x.seal(1, 1, true);
        x.seal(1, 2, true);
        x.death(0, 0);
        x.death(1, 0);
        x.days(2);
        x.mourn(2, 0, true);
        x.days(2);
        x.mourn(2, 1, true);
        x.days(2);
        x.mourn(2, 0, false);
        x.mourn(2, 1, false);
        is("before", x.may(0, 1, 6) + x.may(1, 1, 6), 0);
        is("the first alone", x.may(0, 3, 6), 1);
        is("the first alone", x.may(0, 2000, 3), 1);
        is("both", x.may(1, 4, 6), 1);
        is("both", x.may(1, 2000, 5), 1);
        is("both, not the first alone", x.may(0, 5, 5), 0);
        is("none any more", x.may(0, 6, 6) + x.may(1, 6, 6), 0);
        promise = 31;
        is("on an elder day", x.dead(0, 5, 6), 1);
        is("on a day before all", x.dead(0, 1, 6), 0);
        is("not any more", x.dead(0, 6, 6), 0);
        x.death(2, 3);
        is("nobody said it: no day goes by", x.dead(2, 2000, 6), 0);
        x.mourn(0, 2, true);
        is("that day", x.dead(2, 6, 6), 1);
        LifeKeys y = with(2);
        rule(y, "w0");
        y.death(1, 0);
        y.mourn(0, 1, true);
        is("the very first saying", y.dead(1, 0, 0), 1);
    }

    private static void unsealing() {
        promise = 32;
        LifeKeys x = with(1);
        x.key(5, false);
        rule(x, "h0&w1");
        x.seal(1, 0, true);
        x.seal(1, 0, false);
        none("sealed to a key", x.unseal(1));
        none("no such", x.unseal(2));
        none("no such", x.unseal(-1));
        x.say(0, 0, true);
        x.ask(0);
        is("does not hold", x.unseal(0), 0);
        is("count", x.count(13), 0);
        x.days(1);
        is("opened", x.unseal(0), 1);
        is("it was", x.unseal(0), 2);
        x.say(0, 0, false);
        is("it stays so", x.unseal(0), 2);
        is("the rule does not hold", x.may(0, 1, 1), 0);
        is("count", x.count(13), 1);
    }

    private static void signing() {
        promise = 33;
        LifeKeys x = with(2);
        x.key(7, false);
        x.key(1018, false);
        x.seal(100, 0, false);
        none("does not get it", x.sign(0, 0, 0, 3));
        x.give(0, 0);
        none("another does not get it", x.sign(1, 0, 0, 3));
        none("t 0", x.sign(0, 0, 0, 0));
        none("t 1019", x.sign(0, 0, 0, 1019));
        none("no such thing", x.sign(0, 0, 1, 3));
        none("no such thing", x.sign(0, 0, -1, 3));
        none("no such key", x.sign(0, 2, 0, 3));
        none("no such key", x.sign(0, -1, 0, 3));
        none("no such holder", x.sign(2, 0, 0, 3));
        none("no such holder", x.sign(-1, 0, 0, 3));
        x.days(2);
        is("sign", x.sign(0, 0, 0, 1018), 0);
        int r = power(4, 1018);
        int c = (r + 700) % 1019;
        promise = 36;
        is("r", x.signed(0, 0), r);
        is("s", x.signed(0, 1), (1018 + c * 7) % 1019);
        is("key", x.signed(0, 2), 0);
        is("thing", x.signed(0, 3), 0);
        is("day", x.signed(0, 4), 2);
        none("5", x.signed(0, 5));
        none("-1", x.signed(0, -1));
        none("no such", x.signed(1, 0));
        none("no such", x.signed(-1, 0));
        promise = 37;
        is("taken", x.taken(0, 0, r, x.signed(0, 1)), 1);
        is("another s", x.taken(0, 0, r, (x.signed(0, 1) + 1) % 1019), 0);
        is("another key", x.taken(0, 1, r, x.signed(0, 1)), 0);
        is("edges", x.taken(0, 0, 1, 0), 0);
        is("edges", x.taken(0, 0, 2038, 1018), 0);
        none("r", x.taken(0, 0, 0, 5));
        none("r", x.taken(0, 0, 2039, 5));
        none("s", x.taken(0, 0, 5, -1));
        none("s", x.taken(0, 0, 5, 1019));
        none("no such thing", x.taken(1, 0, 5, 5));
        none("no such key", x.taken(0, 2, 5, 5));
        none("no such", x.taken(-1, -1, 5, 5));
        promise = 33;
        x.wrap(1, 0);
        is("got through a wrap", x.sign(0, 1, 0, 5), 1);
        x.part(1, 3, 2, 1);
        none("not alone", x.sign(1, 1, 0, 5));
        x.burn(0, 3);
        is("burnt from a later day", x.sign(0, 0, 0, 5), 2);
        x.days(1);
        none("burnt", x.sign(0, 0, 0, 5));
        is("another key", x.sign(0, 1, 0, 5), 3);
        x.old(1);
        none("old", x.sign(0, 1, 0, 5));
        x.key(9, false);
        x.give(1, 2);
        for (int i = 4; i < 80; i++) {
            is("sign", x.sign(1, 2, 0, i), i);
        }
        none("there are 80", x.sign(1, 2, 0, 5));
        is("count", x.count(8), 80);
        promise = 42;
        is("lend", x.lend(2, 1, 9, 1, NONE), 0);
        none("there are 80", x.use(0, 0, 5));
        promise = 35;
        is("part", x.part(2, 1, 1, 1), 1);
        none("there are 80", x.several(1, 1, 0, 5));
    }

    private static void together() {
        promise = 34;
        LifeKeys x = with(5);
        is("it is so", x.falsely(0, false), false);
        is("no such", x.falsely(5, true), false);
        is("no such", x.falsely(-1, true), false);
        is("false", x.falsely(4, true), true);
        is("it is so", x.falsely(4, true), false);
        is("not any more", x.falsely(4, false), true);
        promise = 35;
        x.key(77, false);
        x.seal(10, 0, false);
        is("part", x.part(0, 0b01111, 3, 42), 0);
        none("not so many", x.several(0, 0b00011, 0, 1));
        none("others", x.several(0, 0b10111, 0, 1));
        none("none", x.several(0, 0, 0, 1));
        none("no such holders", x.several(0, MIN, 0, 1));
        none("no such thing", x.several(0, 0b0111, 1, 1));
        none("no such thing", x.several(0, 0b0111, -1, 1));
        none("no such parting", x.several(1, 0b0111, 0, 1));
        none("no such parting", x.several(-1, 0b0111, 0, 1));
        x.days(1);
        is("three", x.several(0, 0b1110, 0, 1), 0);
        is("four", x.several(0, 0b1111, 0, -1), 1);
        for (int i = 0; i < 2; i++) {
            is("taken", x.taken(0, 0, x.signed(i, 0), x.signed(i, 1)), 1);
            is("key", x.signed(i, 2), 0);
            is("thing", x.signed(i, 3), 0);
            is("day", x.signed(i, 4), 1);
        }
        long y = 1;
        int r = 1;
        for (int i = 0; i < 3; i++) {
            y = y * 6364136223846793005L + 1442695040888963407L;
            r = r * power(4, (int) ((y >>> 33) % 1018) + 1) % 2039;
        }
        is("r", x.signed(0, 0), r);
        x.falsely(2, true);
        x.falsely(3, true);
        is("the first false one", x.several(0, 0b1111, 0, 1), -4);
        x.falsely(2, false);
        is("the first false one", x.several(0, 0b1111, 0, 1), -5);
        is("without it", x.several(0, 0b0111, 0, 1), 2);
        is("count", x.count(8), 3);
        falseButUnseen(x);
        x.again(0, 5);
        none("OUT", x.several(0, 0b0111, 0, 1));
        x.seal(11, 0, false);
        is("the younger", x.several(1, 0b0111, 1, 1), 4);
        is("another thing", x.signed(4, 3), 1);
        x.burn(0, 1);
        none("burnt", x.several(1, 0b0111, 0, 1));
        x.key(9, false);
        is("need 1", x.part(1, 0b10000, 1, 0), 2);
        is("alone", x.several(2, 0b10000, 0, 3), 5);
        is("taken", x.taken(0, 1, x.signed(5, 0), x.signed(5, 1)), 1);
        x.old(1);
        none("old", x.several(2, 0b10000, 0, 3));
    }

    /** Where c is 0, a false PART does not count: what was given agrees, and the SIGNATURE is made. */
    private static void falseButUnseen(LifeKeys x) {
        long seed = 0;
        for (; seed < 100000; seed++) {
            long y = seed;
            int r = 1;
            for (int i = 0; i < 4; i++) {
                y = y * 6364136223846793005L + 1442695040888963407L;
                r = r * power(4, (int) ((y >>> 33) % 1018) + 1) % 2039;
            }
            if ((r + 70) % 1019 == 0) {
                break;
            }
        }
        is("c is 0", x.several(0, 0b1111, 0, seed), 3);
        is("taken", x.taken(0, 0, x.signed(3, 0), x.signed(3, 1)), 1);
    }

    private static void burning() {
        promise = 38;
        LifeKeys x = with(1);
        x.key(5, false);
        x.key(6, false);
        is("no such", x.burn(2, 0), false);
        is("no such", x.burn(-1, 0), false);
        is("day", x.burn(0, -1), false);
        is("day", x.burn(0, 2001), false);
        for (int i = 0; i < 60; i++) {
            is("burn", x.burn(i % 2, 2000 - i), true);
        }
        is("there were 60", x.burn(0, 0), false);
        is("the least", x.told(0, 2), 1942);
        promise = 39;
        is("no such", x.old(2), false);
        is("no such", x.old(-1), false);
        x.days(7);
        is("old", x.old(1), true);
        is("it is", x.old(1), false);
        is("since", x.told(1, 3), 7);
        none("another", x.told(0, 3));
    }

    private static void standing() {
        promise = 40;
        LifeKeys x = with(1);
        x.key(5, false);
        x.give(0, 0);
        x.seal(1, 0, false);
        x.days(10);
        x.sign(0, 0, 0, 1);
        is("stands", x.stands(0, 10), 1);
        none("made behind q", x.stands(0, 9));
        none("no such", x.stands(1, 10));
        none("no such", x.stands(-1, 10));
        none("q", x.stands(0, 11));
        none("q", x.stands(0, -1));
        x.days(2);
        x.burn(0, 11);
        is("burnt from a later day", x.stands(0, 12), 1);
        x.days(2);
        x.burn(0, 10);
        is("doubtful", x.stands(0, 14), 2);
        is("as known before", x.stands(0, 13), 1);
        x.burn(0, 2);
        x.burn(0, 1900);
        is("doubtful still", x.stands(0, 14), 2);
        x.key(6, false);
        x.give(0, 1);
        x.sign(0, 1, 0, 1);
        x.burn(1, 15);
        is("later", x.stands(1, 14), 1);
        x.burn(1, 14);
        is("told on the very day", x.stands(1, 14), 3);
        x.days(3);
        is("fallen", x.stands(1, 17), 3);
        is("the other is not touched", x.stands(0, 17), 2);
        // Told on the day for a later one, and afterwards for an earlier one: nobody knew, so doubtful.
        x.key(7, false);
        x.give(0, 2);
        x.sign(0, 2, 0, 1);
        x.burn(2, 18);
        x.days(1);
        x.burn(2, 3);
        is("doubtful", x.stands(2, 18), 2);
        is("stood", x.stands(2, 17), 1);
        x.old(2);
        is("OLD does not matter", x.stands(2, 17), 1);
    }

    private static void lending() {
        promise = 41;
        LifeKeys x = with(2);
        x.key(5, false);
        x.seal(1, 0, false);
        x.seal(2, 0, false);
        x.days(10);
        none("no such key", x.lend(1, 0, 12, 1, 0));
        none("no such key", x.lend(-1, 0, 12, 1, 0));
        none("no such holder", x.lend(0, 2, 12, 1, 0));
        none("no such holder", x.lend(0, -1, 12, 1, 0));
        none("a day that is over", x.lend(0, 0, 9, 1, 0));
        none("day", x.lend(0, 0, 2001, 1, 0));
        none("uses", x.lend(0, 0, 12, 0, 0));
        none("uses", x.lend(0, 0, 12, 101, 0));
        none("no such thing", x.lend(0, 0, 12, 1, 2));
        none("no such thing", x.lend(0, 0, 12, 1, -2));
        is("lend", x.lend(0, 0, 10, 100, 0), 0);
        is("lend", x.lend(0, 0, 2000, 2, NONE), 1);
        is("count", x.count(9), 2);
        promise = 42;
        none("for another thing", x.use(0, 1, 1));
        is("use", x.use(0, 0, 1018), 0);
        is("r", x.signed(0, 0), power(4, 1018));
        is("taken", x.taken(0, 0, x.signed(0, 0), x.signed(0, 1)), 1);
        is("thing", x.signed(0, 3), 0);
        is("day", x.signed(0, 4), 10);
        none("t", x.use(0, 0, 0));
        none("t", x.use(0, 0, 1019));
        none("no such thing", x.use(1, 2, 1));
        none("no such thing", x.use(1, -1, 1));
        none("no such", x.use(2, 0, 1));
        none("no such", x.use(-1, 0, 1));
        x.days(1);
        none("beyond its day", x.use(0, 0, 1));
        is("any thing", x.use(1, 1, 1), 1);
        is("any thing", x.use(1, 0, 1), 2);
        none("used so often", x.use(1, 0, 1));
        is("lend", x.lend(0, 1, 11, 5, NONE), 2);
        is("use", x.use(2, 0, 1), 3);
        promise = 43;
        is("back", x.back(2), true);
        is("it is", x.back(2), false);
        is("no such", x.back(3), false);
        is("no such", x.back(-1), false);
        is("one beyond its day", x.back(0), true);
        is("count", x.count(9), 1);
        promise = 42;
        none("it is back", x.use(2, 0, 1));
        is("lend", x.lend(0, 1, 20, 5, NONE), 3);
        x.burn(0, 12);
        is("burnt from a later day", x.use(3, 0, 1), 4);
        x.days(1);
        none("burnt", x.use(3, 0, 1));
        x.key(6, false);
        x.lend(1, 0, 20, 2, 1);
        is("another key", x.use(4, 1, 7), 5);
        is("key", x.signed(5, 2), 1);
        is("thing", x.signed(5, 3), 1);
        is("taken", x.taken(1, 1, x.signed(5, 0), x.signed(5, 1)), 1);
        x.old(1);
        none("old", x.use(4, 1, 1));
        promise = 41;
        for (int i = 5; i < 40; i++) {
            is("lend", x.lend(1, 0, 20, 1, 1), i);
        }
        none("there are 40, those BACK too", x.lend(1, 0, 20, 1, 1));
        promise = 42;
        LifeKeys y = with(1);
        y.key(5, false);
        y.seal(1, 0, false);
        y.lend(0, 0, 0, 1, NONE);
        is("the first signature of all", y.use(0, 0, 1), 0);
        none("used so often", y.use(0, 0, 1));
    }

    private static void falls() {
        promise = 44;
        LifeKeys x = with(4);
        none("none", x.fall(0));
        none("no such", x.fall(16));
        none("no such", x.fall(-1));
        is("fall", x.fall(0b0001), 0);
        is("fall", x.fall(0b1111), 1);
        is("fall", x.fall(0b0110), 2);
        promise = 45;
        x.key(5, true);
        x.key(6, false);
        x.key(7, false);
        tape(x, "n");
        x.make(0);
        x.give(0, 0);
        x.part(1, 0b0111, 2, 1);
        x.days(3);
        is("lost with the first: its root, what is made of it, and what nobody has", x.fallen(0, 0), 0b1101);
        is("bare", x.fallen(0, 1), 0b1001);
        is("all fall: all is lost", x.fallen(1, 0), 0b1111);
        is("bare", x.fallen(1, 1), 0b1011);
        is("two of the parting", x.fallen(2, 0), 0b0110);
        is("bare", x.fallen(2, 1), 0b0010);
        none("what", x.fallen(0, 2));
        none("what", x.fallen(0, -1));
        none("no such", x.fallen(3, 0));
        none("no such", x.fallen(-1, 0));
        x.give(3, 0);
        is("told NOW", x.fallen(0, 0), 0b0100);
        promise = 44;
        for (int i = 3; i < 20; i++) {
            is("fall", x.fall(1), i);
        }
        none("there are 20", x.fall(1));
    }

    private static void leasts(LifeKeys x, int key, int what, int least, int ways, int first) {
        promise = 46;
        is("least " + key + " " + what, x.least(key, what), least);
        promise = 47;
        is("ways " + key + " " + what, x.ways(key, what), ways);
        promise = 48;
        is("first " + key + " " + what, x.first(key, what), first);
    }

    private static void least() {
        LifeKeys x = with(12);
        for (int i = 0; i < 5; i++) {
            x.key(5 + i, i == 4);
        }
        leasts(x, 5, 0, NONE, NONE, NONE);
        leasts(x, -1, 0, NONE, NONE, NONE);
        leasts(x, 0, 2, NONE, NONE, NONE);
        leasts(x, 0, -1, NONE, NONE, NONE);
        // A key that nobody gets is lost by each fall (which has one holder at least), and never bare.
        leasts(x, 0, 0, 1, 12, 1);
        leasts(x, 0, 1, NONE, NONE, NONE);
        x.part(0, 4095, 5, 1);
        leasts(x, 0, 1, 5, 792, 0b11111);
        leasts(x, 0, 0, 8, 495, 0b11111111);
        x.part(1, 4095, 12, 1);
        leasts(x, 1, 0, 1, 12, 1);
        leasts(x, 1, 1, 12, 1, 4095);
        // {0, 11} or {1, 2}: the first has the lower holder, though its bits are more.
        x.part(2, 0b100000000001, 2, 1);
        x.part(2, 0b000000000110, 2, 1);
        leasts(x, 2, 1, 2, 2, 0b100000000001);
        leasts(x, 2, 0, 2, 4, 0b000000000011);
        // By the outer key too.
        x.give(7, 3);
        x.wrap(2, 3);
        leasts(x, 2, 1, 1, 1, 1 << 7);
        leasts(x, 2, 0, 3, 4, 0b10000011);
        leasts(x, 3, 0, 1, 1, 1 << 7);
        x.cut(0);
        leasts(x, 2, 1, 2, 2, 0b100000000001);
        tape(x, "n");
        x.make(4);
        x.give(9, 4);
        x.give(8, 5);
        leasts(x, 5, 1, 1, 2, 1 << 8);
        leasts(x, 5, 0, 2, 1, 0b1100000000);
        x.again(0, 9);
        leasts(x, 0, 1, 5, 792, 0b11111);
        x.give(0, 4);
        leasts(x, 5, 1, 1, 3, 1);
        leasts(x, 5, 0, 3, 1, 0b1100000001);
        x.take(0, 4);
        x.days(1);
        x.take(8, 5);
        leasts(x, 5, 1, 1, 1, 1 << 9);
        LifeKeys empty = new LifeKeys();
        empty.key(5, false);
        leasts(empty, 0, 0, NONE, NONE, NONE);
        leasts(empty, 0, 1, NONE, NONE, NONE);
    }

    private static void better() {
        promise = 49;
        LifeKeys x = with(6);
        none("no such", x.better(0));
        none("no such", x.better(-1));
        x.key(5, false);
        x.part(0, 0b111111, 3, 1);
        is("no fall told: its own", x.better(0), 3);
        x.fall(0b000001);
        is("its own", x.better(0), 3);
        x.fall(0b000111);
        none("three fall of six: bare with up to 3, lost with more", x.better(0));
        x = with(6);
        x.key(5, false);
        x.part(0, 0b111111, 2, 1);
        x.fall(0b000011);
        is("3 or 4: the nearest", x.better(0), 3);
        x.part(0, 0b111111, 6, 1);
        none("the other parting lays it bare", x.better(1));
        x = with(6);
        x.key(5, false);
        x.part(0, 0b111111, 6, 1);
        x.fall(0b000011);
        is("3 or 4: the nearest", x.better(0), 4);
        x.fall(0b100000);
        is("still", x.better(0), 4);
        is("nothing is changed", x.left(0, 1), 5);
        is("nothing is changed", x.got(0b11111, 0), 0);
        x.again(0, 1);
        none("OUT", x.better(0));
        is("the younger", x.better(1), 4);
        // The sixth has the key itself, so that it is not lost; four of five fall: bare with 1 .. 4.
        x = with(6);
        x.key(5, false);
        x.part(0, 0b011111, 3, 1);
        x.give(5, 0);
        x.fall(0b001111);
        is("5", x.better(0), 5);
        x.fall(0b011111);
        none("none", x.better(0));
        x = with(4);
        x.key(5, false);
        x.part(0, 0b0111, 3, 1);
        x.fall(0b1000);
        is("its own", x.better(0), 3);
        x.fall(0b1001);
        is("2", x.better(0), 2);
        betterAtTheEdges();
        betterByOtherWays();
    }

    private static void betterAtTheEdges() {
        LifeKeys x = with(4);
        x.key(5, false);
        x.part(0, 0b0011, 2, 1);
        x.fall(0b0100);
        x.fall(0b1001);
        none("lost with 2, bare with 1", x.better(0));
        LifeKeys y = with(12);
        y.key(5, false);
        y.part(0, 4094, 11, 1);
        y.fall(1);
        is("its own", y.better(0), 11);
        LifeKeys z = with(12);
        z.key(5, false);
        z.part(0, 4095, 1, 1);
        z.fall(0b11111);
        is("up to 6", z.better(0), 6);
    }

    private static void betterByOtherWays() {
        LifeKeys x = with(3);
        x.key(5, false);
        x.key(6, false);
        x.wrap(0, 1);
        x.give(2, 1);
        x.part(0, 0b011, 2, 1);
        x.fall(0b001);
        is("its own", x.better(0), 2);
        x.fall(0b100);
        none("lost by neither, bare by the wrap", x.better(0));
        x.cut(0);
        none("lost by the first with 2, bare with 1", x.better(0));
    }

    private static void order() {
        promise = 50;
        LifeKeys x = with(2);
        none("no such fall", x.order(0, 0));
        x.fall(1);
        none("no such fall", x.order(1, 0));
        none("no such fall", x.order(-1, 0));
        none("nothing bare", x.order(0, 0));
        // 0 in 2, 3 made of 1, 1 in 4, 5 and 6 in one another, 7 in 8 which is not bare
        x.key(1, false);
        x.key(2, true);
        x.key(3, false);
        tape(x, "n");
        x.make(1);
        for (int i = 4; i < 9; i++) {
            x.key(i, false);
        }
        x.wrap(0, 2);
        x.wrap(1, 4);
        x.wrap(5, 6);
        x.wrap(6, 5);
        x.wrap(7, 8);
        for (int i = 0; i < 8; i++) {
            x.give(0, i);
        }
        int[] want = {2, 0, 4, 1, 3, 7};
        for (int i = 0; i < want.length; i++) {
            is("order " + i, x.order(0, i), want[i]);
        }
        none("those within one another are not told", x.order(0, 6));
        none("-1", x.order(0, -1));
        none("MAX", x.order(0, MAX));
        x.cut(3);
        is("5 is in 6: 6 comes before 7, and then 5", x.order(0, 5), 6);
        is("the lowest again", x.order(0, 6), 5);
        is("then", x.order(0, 7), 7);
        none("no more", x.order(0, 8));
        x.cut(0);
        is("not WRAPPED NOW", x.order(0, 0), 0);
    }

    private static void count() {
        promise = 51;
        LifeKeys x = with(3);
        none("-1", x.count(-1));
        none("14", x.count(14));
        none("MIN", x.count(MIN));
        x.days(5);
        x.key(5, false);
        x.key(5, false);
        x.key(5, false);
        x.key(5, false);
        x.part(0, 1, 1, 1);
        x.again(0, 1);
        x.wrap(0, 1);
        x.wrap(0, 1);
        x.cut(0);
        rule(x, "0{h1}");
        x.seal(1, 0, true);
        x.seal(1, 0, false);
        x.seal(1, 0, true);
        x.say(0, 0, true);
        x.mourn(0, 1, true);
        x.give(0, 0);
        x.sign(0, 0, 0, 1);
        x.lend(0, 0, 9, 1, NONE);
        x.lend(0, 0, 9, 1, NONE);
        x.lend(0, 0, 9, 1, NONE);
        x.back(1);
        x.fall(1);
        x.fall(2);
        tape(x, "abc");
        x.lay(0, 1);
        x.unseal(0);
        int[] want = {5, 3, 4, 2, 1, 1, 3, 2, 1, 2, 2, 3, 1, 1};
        for (int i = 0; i < want.length; i++) {
            is("count " + i, x.count(i), want[i]);
        }
    }

    public static void main(String[] args) {
        newObject();
        days();
        holders();
        keys();
        feed();
        end();
        make();
        open();
        told();
        giveAndTake();
        wraps();
        partings();
        again();
        bench();
        left();
        got();
        faults();
        rules();
        deaths();
        sealing();
        sayings();
        asking();
        texts();
        unsealing();
        signing();
        together();
        burning();
        standing();
        lending();
        falls();
        least();
        better();
        order();
        count();
        System.out.println(asked + " answers asked for, " + wrong + " not as due");
        if (wrong != 0) {
            System.exit(1);
        }
    }
}
