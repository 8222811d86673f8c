/** DAYS, HOLDERS, KEYS, the TAPE, who HAS a KEY, and WRAPS: promises 1 to 13. */
final class BoundsOfKeys extends Bounds {
    static void all() {
        use();
        termsOfDays();
        termsOfKeys();
        termsOfMadeKeys();
        termsOfHands();
        newObject();
        days();
        holder();
        key();
        feed();
        end();
        make();
        open();
        told();
        give();
        take();
        wrap();
        cut();
    }

    static void fullHolders(LifeKeys x) {
        Twins.rich(x);
        while (x.count(1) < 12) {
            x.holder();
        }
    }

    static void fullKeys(LifeKeys x) {
        Twins.rich(x);
        for (int i = Twins.KEYS; i < 40; i++) {
            x.key(i, i % 2 == 0);
        }
    }

    static void fullWraps(LifeKeys x) {
        Twins.rich(x);
        for (int i = Twins.WRAPS; i < 40; i++) {
            x.wrap(0, 1);
        }
    }

    static void lastDay(LifeKeys x) {
        Twins.rich(x);
        x.days(1000);
        x.days(2000 - 1000 - Twins.NOW);
    }

    private static void use() {
        run("What it is", "An object is used for at most 512 calls after it has been made;", () -> {
            LifeKeys x = with(1);
            x.key(5, false);
            for (int call = 3; call < 511; call++) {
                is("call " + call, call % 2 == 1 ? x.give(0, 0) : x.take(0, 0), true);
            }
            is("the 511th call, after as many gifts as takings", x.give(0, 0), true);
            is("the 512th call", x.got(1, 0), 1);
        });
        terms("What is refused answers as told and changes nothing.", () -> {
            for (int what = 0; what < 14; what++) {
                is("count " + what + " of the cupboard that refused calls are tried on", rich().count(what), Twins.COUNTS[what]);
            }
            refused(Twins::rich, "many refused calls one after the other", 48, BoundsOfKeys::manyRefused);
        });
        terms("The constants: `NONE = -1`: None; refused.", () -> is("NONE", LifeKeys.NONE, -1));
    }

    /** One refused call of each kind; answers how many were refused as told. */
    private static int manyRefused(LifeKeys x) {
        long[] none = {x.days(-1), x.key(0, false), x.make(0), x.told(0, 5), x.wrap(1, 1), x.part(0, 0, 1, 1), x.again(1, 1),
            x.piece(0, 3), x.checks(0, 2), x.fits(0, 3, 5), x.lay(0, 5), x.left(0, 0), x.got(0, 0), x.seal(1019, 0, false),
            x.may(0, 0, 0), x.dead(5, 0, 0), x.unseal(0), x.sign(4, 0, 0, 1), x.several(0, 1, 0, 1), x.signed(0, 5),
            x.taken(0, 0, 0, 0), x.stands(0, 6), x.lend(0, 0, 6, 1, NONE), x.use(2, 0, 1), x.fall(0), x.fallen(0, 2),
            x.least(0, 2), x.ways(0, 2), x.first(0, 2), x.better(1), x.order(2, 0), x.count(14)};
        boolean[] no = {x.end(6), x.give(0, 0), x.take(0, 1), x.cut(1), x.death(0, 3), x.say(5, 0, true), x.mourn(0, 0, true),
            x.ask(1), x.falsely(3, true), x.burn(0, 2001), x.old(4), x.back(2)};
        int found = publicOf(x, 5) == THROWN ? 1 : 0;
        for (long one : none) {
            found += one == NONE ? 1 : 0;
        }
        for (boolean one : no) {
            found += one ? 0 : 1;
        }
        return found + refusedWhenFull();
    }

    /** The three that nothing but a lack of room or of numbers refuses. */
    private static int refusedWhenFull() {
        LifeKeys x = with(12);
        int found = x.holder() == NONE ? 1 : 0;
        Texts.tape(x, signs('(', 160));
        found += x.feed(1, 0, 0, 0, 0) == NONE ? 1 : 0;
        return found + (x.rule() == NONE && x.join() == NONE ? 1 : 0);
    }

    private static void termsOfDays() {
        terms("NOW is DAY 0 at first,", () -> {
            is("NOW", new LifeKeys().count(0), 0);
            is("DAY 0 is a past one", with(1).got(1, 0), 0);
            is("DAY 1 is to come", with(1).got(1, 1), -1);
        });
        terms("2,000 at most;", () -> {
            LifeKeys x = new LifeKeys();
            x.days(1000);
            is("2,000", x.days(1000), 2000);
            is("2,001", x.days(1), NONE);
            is("NOW", x.count(0), 2000);
        });
        terms("all is told NOW;", () -> {
            LifeKeys x = with(2);
            x.key(5, false);
            x.days(3);
            x.give(0, 0);
            x.part(0, 2, 1, 1);
            is("the DAY before", x.got(3, 2), 0);
            is("what was given, from that DAY on", x.got(1, 3), 1);
            is("what was parted, from that DAY on", x.got(2, 3), 1);
        });
        terms("as known in q (0 .. NOW): by what was told on DAYS up to q.", () -> {
            LifeKeys x = with(2);
            rule(x, "h0");
            x.seal(1, 0, true);
            x.death(1, 0);
            x.days(5);
            x.say(0, 0, true);
            x.mourn(0, 1, true);
            x.days(1);
            is("told on q", x.may(0, 6, 5), 1);
            is("told behind q", x.may(0, 6, 4), 0);
            is("death told on q", x.dead(1, 6, 5), 1);
            is("death told behind q", x.dead(1, 6, 4), 0);
            is("q is 0", x.may(0, 6, 0), 0);
            is("q is NOW", x.may(0, 6, 6), 1);
            is("q is behind NOW", x.may(0, 6, 7), NONE);
            is("q is before 0", x.may(0, 6, -1), NONE);
        });
    }

    private static void termsOfKeys() {
        terms("Sums of numbers of keys go modulo 1,019,", () -> {
            LifeKeys x = with(2);
            // 2 times 1,018 less 1,018, and 2 times 1,018 less 0: the line goes round.
            x.lay(0, 1018);
            x.lay(1, 1018);
            is("a flat line at the highest number", x.join(), 1018);
            x.lay(0, 1018);
            x.lay(1, 0);
            is("2,036 goes round to 1,017", x.join(), 1017);
            x.lay(0, 0);
            x.lay(1, 1);
            is("one below 0 goes round to 1,018", x.join(), 1018);
        });
        terms("POWERS of 4 and what is made of them modulo 2,039.", () -> {
            LifeKeys x = new LifeKeys();
            int[][] due = {{1, 4}, {5, 1024}, {6, 18}, {1018, 510}, {509, power(4, 509)}};
            for (int[] one : due) {
                is("4 to the " + one[0], x.open(x.key(one[0], false)), one[1]);
            }
        });
        terms("HOLDERS 0 .. 11, as many as told.", () -> {
            for (int told = 0; told <= 12; told++) {
                LifeKeys x = with(told);
                x.key(5, false);
                is("the next of " + told, x.give(told, 0), false);
                is("the last of " + told, x.give(told - 1, 0), told > 0);
                is("all of " + told, x.fall((1 << told) - 1), told == 0 ? NONE : 0);
                is("one more than " + told, x.fall(1 << told), NONE);
            }
        });
        terms("KEYS (40 at most), each with a SECRET (1 .. 1,018):", () -> {
            LifeKeys x = new LifeKeys();
            is("0", x.key(0, false), NONE);
            is("1", x.key(1, false), 0);
            is("1,018", x.key(1018, false), 1);
            is("1,019", x.key(1019, false), NONE);
            for (int i = 2; i < 40; i++) {
                is("key " + i, x.key(i, false), i);
            }
            is("a 41st", x.key(5, false), NONE);
        });
        terms("PLAIN (0) and ROOTS (1), told;", () -> {
            LifeKeys x = new LifeKeys();
            is("PLAIN", x.told(x.key(5, false), 0), 0);
            is("ROOT", x.told(x.key(5, true), 0), 1);
        });
    }

    /** The SECRET, by its PUBLIC, of what is made of a ROOT by these bytes. */
    private static void made(int root, String name, int secret) {
        LifeKeys x = new LifeKeys();
        x.key(root, true);
        is("made of " + root, make(x, 0, name), 1);
        is("public of what is made of " + root, x.open(1), power(4, secret));
    }

    private static String bytes(int... bytes) {
        StringBuilder name = new StringBuilder();
        for (int one : bytes) {
            name.append((char) one);
        }
        return name.toString();
    }

    private static void termsOfMadeKeys() {
        terms("MADE (2) of a ROOT and a name (1 to 40 bytes):", () -> {
            LifeKeys x = new LifeKeys();
            x.key(5, true);
            is("0 bytes", make(x, 0, ""), NONE);
            is("1 byte", make(x, 0, "a"), 1);
            is("its sort", x.told(1, 0), 2);
            is("40 bytes", make(x, 0, signs('a', 40)), 2);
            is("41 bytes", make(x, 0, signs('a', 41)), NONE);
        });
        terms("h is 0 at first, and becomes 131 h and the byte, modulo 1,019, for each byte;", () -> {
            made(1, bytes(1), 37 + 1 + 1);
            made(1, bytes(255), 37 + 255 + 1);
            made(1, bytes(1, 1), 37 + 132 + 1);
            // 131 times 7 and 102 is 1,019.
            made(1, bytes(7, 101), (37 + 1018) % 1018 + 1);
            made(1, bytes(7, 102), 37 + 1);
            made(1, bytes(7, 103), 37 + 1 + 1);
            made(1, bytes(7, 102, 9), 37 + 9 + 1);
            int h = 0;
            for (int i = 0; i < 40; i++) {
                h = (131 * h + 255) % 1019;
            }
            made(1, signs((char) 255, 40), (37 + h) % 1018 + 1);
        });
        terms("SECRET is 37 times the ROOT's and h, modulo 1,018, and 1.", () -> {
            // 37 and 980, 981 (131 times 6, and 194, 195) are 1,017 and 1,018.
            made(1, bytes(6, 194), 1018);
            made(1, bytes(6, 195), 1);
            made(1, bytes(6, 196), 2);
            made(1018, bytes(1), 2);
            made(1018, bytes(255), 256);
            made(1017, bytes(1), (37 * 1017 + 1) % 1018 + 1);
        });
        terms("PUBLIC of a KEY: 4 to the SECRET.", () -> {
            LifeKeys x = new LifeKeys();
            for (int secret : new int[] {1, 2, 3, 5, 6, 508, 509, 510, 1017, 1018}) {
                is("public of " + secret, x.open(x.key(secret, false)), power(4, secret));
            }
        });
    }

    private static void termsOfHands() {
        terms("A HOLDER HAS a KEY on a DAY, if it was given on a DAY up to it", () -> {
            LifeKeys x = with(1);
            x.key(5, false);
            x.days(4);
            x.give(0, 0);
            x.days(2);
            is("the DAY before", x.got(1, 3), 0);
            is("that DAY", x.got(1, 4), 1);
            is("the DAY after", x.got(1, 5), 1);
            is("NOW", x.got(1, 6), 1);
        });
        terms("and not taken away up to it.", () -> {
            LifeKeys x = with(1);
            x.key(5, false);
            x.give(0, 0);
            x.days(4);
            x.take(0, 0);
            x.days(2);
            is("the DAY before", x.got(1, 3), 1);
            is("that DAY", x.got(1, 4), 0);
            is("the DAY after", x.got(1, 5), 0);
            x.give(0, 0);
            is("given anew", x.got(1, 6), 1);
            is("not before", x.got(1, 5), 0);
        });
        terms("WRAPS (40 at most):", () -> {
            LifeKeys x = new LifeKeys();
            x.key(5, false);
            x.key(6, false);
            for (int i = 0; i < 40; i++) {
                is("wrap", x.wrap(0, 1), i);
            }
            is("a 41st", x.wrap(0, 1), NONE);
            x.cut(39);
            is("a 41st, when one is cut away", x.wrap(0, 1), NONE);
        });
        terms("an inner KEY lies in an outer one from a DAY on (unlike ones),", () -> {
            LifeKeys x = with(1);
            x.key(5, false);
            x.key(6, false);
            x.give(0, 1);
            x.days(3);
            is("alike", x.wrap(1, 1), NONE);
            x.wrap(0, 1);
            x.days(1);
            is("the DAY before", x.got(1, 2), 0b10);
            is("that DAY", x.got(1, 3), 0b11);
            is("the DAY after", x.got(1, 4), 0b11);
        });
        terms("till it is cut away (that DAY not any more).", () -> {
            LifeKeys x = with(1);
            x.key(5, false);
            x.key(6, false);
            x.give(0, 1);
            x.wrap(0, 1);
            x.days(3);
            x.cut(0);
            x.days(1);
            is("the DAY before", x.got(1, 2), 0b11);
            is("that DAY", x.got(1, 3), 0b10);
            is("the DAY after", x.got(1, 4), 0b10);
        });
    }

    private static void newObject() {
        test(1, "DAY 0, nothing told.", () -> {
            for (int what = 0; what < 14; what++) {
                is("count " + what, new LifeKeys().count(what), 0);
            }
            LifeKeys x = new LifeKeys();
            is("no KEY", publicOf(x, 0), THROWN);
            is("no HOLDER", x.fall(1), NONE);
            is("an empty BENCH", x.join(), NONE);
            is("an empty TAPE", x.fault(), 0);
            is("no WRAP", x.cut(0), false);
            is("nothing LENT", x.back(0), false);
            LifeKeys other = rich();
            is("what is told to one is not told to another", new LifeKeys().count(1), 0);
            is("nor lost by it", other.count(1), Twins.HOLDERS);
        });
        test(1, "DAY 0, nothing told.", () -> {
            Build nothing = x -> { };
            none(nothing, "make(0)", x -> x.make(0));
            none(nothing, "told(0, 0)", x -> x.told(0, 0));
            no(nothing, "give(0, 0)", x -> x.give(0, 0));
            no(nothing, "take(0, 0)", x -> x.take(0, 0));
            none(nothing, "wrap(0, 1)", x -> x.wrap(0, 1));
            no(nothing, "cut(0)", x -> x.cut(0));
            none(nothing, "part(0, 1, 1, 1)", x -> x.part(0, 1, 1, 1));
            none(nothing, "again(0, 1)", x -> x.again(0, 1));
            none(nothing, "piece(0, 0)", x -> x.piece(0, 0));
            none(nothing, "checks(0, 0)", x -> x.checks(0, 0));
            none(nothing, "fits(0, 0, 0)", x -> x.fits(0, 0, 0));
            none(nothing, "lay(0, 0)", x -> x.lay(0, 0));
            none(nothing, "join()", LifeKeys::join);
            none(nothing, "left(0, 1)", x -> x.left(0, 1));
            none(nothing, "got(1, 0)", x -> x.got(1, 0));
            none(nothing, "rule()", LifeKeys::rule);
            no(nothing, "death(0, 0)", x -> x.death(0, 0));
            none(nothing, "seal(0, 0, false)", x -> x.seal(0, 0, false));
            none(nothing, "seal(0, 0, true)", x -> x.seal(0, 0, true));
            no(nothing, "say(0, 0, true)", x -> x.say(0, 0, true));
            no(nothing, "mourn(0, 1, true)", x -> x.mourn(0, 1, true));
            no(nothing, "ask(0)", x -> x.ask(0));
        });
        test(1, "DAY 0, nothing told.", () -> {
            Build nothing = x -> { };
            none(nothing, "may(0, 0, 0)", x -> x.may(0, 0, 0));
            none(nothing, "dead(0, 0, 0)", x -> x.dead(0, 0, 0));
            none(nothing, "unseal(0)", x -> x.unseal(0));
            none(nothing, "sign(0, 0, 0, 1)", x -> x.sign(0, 0, 0, 1));
            no(nothing, "falsely(0, true)", x -> x.falsely(0, true));
            none(nothing, "several(0, 1, 0, 1)", x -> x.several(0, 1, 0, 1));
            none(nothing, "signed(0, 0)", x -> x.signed(0, 0));
            none(nothing, "taken(0, 0, 1, 0)", x -> x.taken(0, 0, 1, 0));
            no(nothing, "burn(0, 0)", x -> x.burn(0, 0));
            no(nothing, "old(0)", x -> x.old(0));
            none(nothing, "stands(0, 0)", x -> x.stands(0, 0));
            none(nothing, "lend(0, 0, 0, 1, NONE)", x -> x.lend(0, 0, 0, 1, NONE));
            none(nothing, "use(0, 0, 1)", x -> x.use(0, 0, 1));
            no(nothing, "back(0)", x -> x.back(0));
            none(nothing, "fall(1)", x -> x.fall(1));
            none(nothing, "fallen(0, 0)", x -> x.fallen(0, 0));
            none(nothing, "least(0, 0)", x -> x.least(0, 0));
            none(nothing, "ways(0, 0)", x -> x.ways(0, 0));
            none(nothing, "first(0, 0)", x -> x.first(0, 0));
            none(nothing, "better(0)", x -> x.better(0));
            none(nothing, "order(0, 0)", x -> x.order(0, 0));
        });
    }

    private static void days() {
        test(2, "n DAYS (0 .. 1,000) go by: NOW.", () -> {
            LifeKeys x = new LifeKeys();
            is("0", x.days(0), 0);
            is("1", x.days(1), 1);
            is("999", x.days(999), 1000);
            is("1,000", x.days(1000), 2000);
            is("NOW", x.count(0), 2000);
        });
        test(2, "NONE: n,", () -> {
            for (int n : new int[] {-1, 1001, 1002, 2000, MIN, MAX}) {
                none("days(" + n + ")", x -> x.days(n));
            }
            // Where NOW and n together would go round to a small number.
            none(BoundsOfKeys::lastDay, "days(MAX) on the last DAY", x -> x.days(MAX));
            none(BoundsOfKeys::lastDay, "days(-1) on the last DAY", x -> x.days(-1));
        });
        test(2, "NOW would be above 2,000.", () -> {
            LifeKeys x = new LifeKeys();
            x.days(1000);
            x.days(1);
            is("1,001 and 1,000", x.days(1000), NONE);
            is("1,001 and 999", x.days(999), 2000);
            none(BoundsOfKeys::lastDay, "days(1) on the last DAY", y -> y.days(1));
            none(BoundsOfKeys::lastDay, "days(1000) on the last DAY", y -> y.days(1000));
            is("days(0) on the last DAY", built(BoundsOfKeys::lastDay).days(0), 2000);
        });
    }

    private static void holder() {
        test(3, "A HOLDER: its number.", () -> {
            LifeKeys x = new LifeKeys();
            is("the first", x.holder(), 0);
            is("the second", x.holder(), 1);
            is("count", x.count(1), 2);
        });
        test(3, "NONE: there are twelve.", () -> {
            LifeKeys x = with(11);
            is("the twelfth", x.holder(), 11);
            is("a thirteenth", x.holder(), NONE);
            none(BoundsOfKeys::fullHolders, "a thirteenth", LifeKeys::holder);
        });
    }

    private static void key() {
        test(4, "A KEY, a ROOT or PLAIN: its number.", () -> {
            LifeKeys x = new LifeKeys();
            is("PLAIN", x.key(5, false), 0);
            is("ROOT", x.key(5, true), 1);
            is("sorts", 10 * x.told(0, 0) + x.told(1, 0), 1);
            is("a ROOT makes", make(x, 1, "a"), 2);
            is("a PLAIN one does not", make(x, 0, "a"), NONE);
        });
        test(4, "NONE: SECRET,", () -> {
            LifeKeys x = new LifeKeys();
            is("1", x.key(1, false), 0);
            is("1, a ROOT", x.key(1, true), 1);
            is("1,018", x.key(1018, false), 2);
            is("1,018, a ROOT", x.key(1018, true), 3);
            for (int secret : new int[] {0, -1, 1019, 1020, MIN, MAX}) {
                none("key(" + secret + ", false)", y -> y.key(secret, false));
                none("key(" + secret + ", true)", y -> y.key(secret, true));
            }
        });
        test(4, "there are 40.", () -> {
            LifeKeys x = new LifeKeys();
            for (int i = 0; i < 39; i++) {
                x.key(1, false);
            }
            is("the 40th", x.key(1018, true), 39);
            is("a 41st", x.key(1, true), NONE);
            none(BoundsOfKeys::fullKeys, "a 41st, PLAIN", y -> y.key(5, false));
            none(BoundsOfKeys::fullKeys, "a 41st, a ROOT", y -> y.key(5, true));
            x = new LifeKeys();
            x.key(5, true);
            for (int i = 1; i < 40; i++) {
                make(x, 0, "a");
            }
            is("MADE ones count, too", x.key(5, false), NONE);
        });
    }

    private static void feed() {
        test(5, "Twenty bytes more come to the TAPE", () -> {
            LifeKeys x = new LifeKeys();
            is("twenty", x.feed(-1, -1, -1, -1, -1), 20);
            is("twenty more", x.feed(0x01010101, 0x01010101, 0x01010101, 0x01010101, 0x01010101), 40);
        });
        test(5, "(of each number the highest first;", () -> {
            LifeKeys x = new LifeKeys();
            x.feed(0x68312668, 0x32266833, 0x26683426, 0x68357C68, 0x36202020);
            is("h1&h2&h3&h4&h5|h6", x.fault(), NONE);
            x.end(0);
            x.feed(0x31680000, 0, 0, 0, 0);
            is("1h", x.fault(), 1);
            LifeKeys y = new LifeKeys();
            y.key(1, true);
            y.feed(0x01020304, 0x05060708, 0x090A0B0C, 0x0D0E0F10, 0x11121314);
            is("made of 1 to 20", y.make(0), 1);
            int h = 0;
            for (int i = 1; i <= 20; i++) {
                h = (131 * h + i) % 1019;
            }
            is("public", y.open(1), power(4, (37 + h) % 1018 + 1));
        });
        test(5, "bytes of 0 are left out):", () -> {
            is("all 0", new LifeKeys().feed(0, 0, 0, 0, 0), 0);
            for (int at = 0; at < 20; at++) {
                int[] one = new int[5];
                int[] others = {-1, -1, -1, -1, -1};
                one[at / 4] = 255 << 24 - at % 4 * 8;
                others[at / 4] ^= one[at / 4];
                is("a byte at " + at + " alone", new LifeKeys().feed(one[0], one[1], one[2], one[3], one[4]), 1);
                is("a 0 at " + at + " alone", new LifeKeys().feed(others[0], others[1], others[2], others[3], others[4]), 19);
            }
            LifeKeys x = new LifeKeys();
            x.feed(0x00680031, 0, 0x00002600, 0x68, 0x32000000);
            is("h1&h2", x.fault(), NONE);
        });
        test(5, "how many it has.", () -> {
            LifeKeys x = new LifeKeys();
            is("3", x.feed(1, 1, 1, 0, 0), 3);
            is("5", x.feed(0, 0, 0, 1, 1), 5);
            is("none more", x.feed(0, 0, 0, 0, 0), 5);
            is("count", x.count(11), 5);
        });
        test(5, "NONE: more than 160.", BoundsOfKeys::feedTooMuch);
    }

    private static void tapeOf(LifeKeys x, int length) {
        Twins.rich(x);
        Texts.tape(x, signs('h', length));
    }

    private static void feedTooMuch() {
        LifeKeys x = new LifeKeys();
        for (int i = 1; i <= 8; i++) {
            is("feed", x.feed(-1, -1, -1, -1, -1), 20 * i);
        }
        is("160 and none more", x.feed(0, 0, 0, 0, 0), 160);
        x.end(140);
        is("140 and 20", x.feed(-1, -1, -1, -1, -1), 160);
        x.end(159);
        is("159 and 1", x.feed(0, 0, 0, 0, 7), 160);
        x.end(159);
        is("159 and 2", x.feed(7, 0, 0, 0, 7), NONE);
        x.end(141);
        is("141 and 20", x.feed(-1, -1, -1, -1, -1), NONE);
        is("nothing came", x.count(11), 141);
        for (int at = 0; at < 20; at++) {
            int[] f = new int[5];
            f[at / 4] = 1 << 24 - at % 4 * 8;
            none(y -> tapeOf(y, 160), "160 and a byte at " + at, y -> y.feed(f[0], f[1], f[2], f[3], f[4]));
        }
        none(y -> tapeOf(y, 159), "159 and 2", y -> y.feed(0x20200000, 0, 0, 0, 0));
        none(y -> tapeOf(y, 141), "141 and 20", y -> y.feed(-1, -1, -1, -1, -1));
    }

    private static void end() {
        test(6, "The TAPE has its first n bytes alone.", () -> {
            LifeKeys x = new LifeKeys();
            Texts.tape(x, "h1&h12");
            is("all of 6", x.end(6), true);
            is("fault of 6", x.fault(), 5);
            is("5 of 6", x.end(5), true);
            is("fault of h1&h1", x.fault(), NONE);
            is("count", x.count(11), 5);
            is("2 of 5", x.end(2), true);
            is("fault of h1", x.fault(), NONE);
            is("0 of 2", x.end(0), true);
            is("count", x.count(11), 0);
            is("0 of 0", x.end(0), true);
            Texts.tape(x, "n1&n2");
            x.end(3);
            x.feed('x', 0, 0, 0, 0);
            is("what comes then is behind the first 3", x.fault(), 3);
        });
        test(6, "False: n.", () -> {
            for (int n : new int[] {-1, Twins.TAPE + 1, Twins.TAPE + 2, 160, 161, MIN, MAX}) {
                no("end(" + n + ")", x -> x.end(n));
            }
            LifeKeys x = new LifeKeys();
            is("1 of 0", x.end(1), false);
            Texts.tape(x, signs('h', 160));
            is("161 of 160", x.end(161), false);
            is("160 of 160", x.end(160), true);
            x.end(80);
            is("bytes that were there once", x.end(81), false);
        });
    }

    private static void make() {
        test(7, "A MADE KEY by the TAPE as a name (empty then): its number.", () -> {
            LifeKeys x = new LifeKeys();
            x.key(5, true);
            is("its number", make(x, 0, "ab"), 1);
            is("the TAPE is empty", x.count(11), 0);
            is("no second one by it", x.make(0), NONE);
            is("its ROOT", x.told(1, 1), 0);
        });
        test(7, "NONE: no such ROOT,", () -> {
            for (int root : noSuch(Twins.KEYS)) {
                none("make(" + root + ")", x -> x.make(root));
            }
            none("make of a PLAIN one", x -> x.make(Twins.PLAIN));
            none("make of a MADE one", x -> x.make(Twins.MADE));
        });
        test(7, "0 or more than 40 bytes,", () -> {
            for (int length : new int[] {1, 2, 39, 40}) {
                LifeKeys x = new LifeKeys();
                x.key(5, true);
                is(length + " bytes", make(x, 0, signs('a', length)), 1);
            }
            for (int length : new int[] {0, 41, 42, 80, 160}) {
                none(x -> tapeOf(x, length), length + " bytes", x -> x.make(Twins.ROOT));
            }
        });
        test(7, "there are 40.", () -> {
            LifeKeys x = new LifeKeys();
            x.key(5, true);
            for (int i = 1; i < 39; i++) {
                x.key(5, false);
            }
            is("the 40th", make(x, 0, "a"), 39);
            is("a 41st", make(x, 0, "a"), NONE);
            none(BoundsOfKeys::fullKeys, "a 41st", y -> y.make(Twins.ROOT));
        });
    }

    private static void open() {
        test(8, "PUBLIC.", () -> {
            LifeKeys x = rich();
            is("PLAIN", x.open(0), 1024);
            is("ROOT", x.open(1), power(4, 10));
            is("MADE", x.open(2), power(4, 37 * 10 + 97 + 1));
            is("the last", x.open(4), 510);
        });
        test(8, "NoSuchElementException: no such KEY.", () -> {
            for (int key : noSuch(Twins.KEYS)) {
                refused(Twins::rich, "open(" + key + ")", THROWN, x -> publicOf(x, key));
            }
            LifeKeys x = built(BoundsOfKeys::fullKeys);
            is("the last of 40", publicOf(x, 39), power(4, 39));
            is("a 41st", publicOf(x, 40), THROWN);
            is("before all", publicOf(new LifeKeys(), 0), THROWN);
        });
    }

    private static void told() {
        test(9, "Of a KEY: 0 its sort,", () -> {
            LifeKeys x = rich();
            is("PLAIN", x.told(0, 0), 0);
            is("ROOT", x.told(1, 0), 1);
            is("MADE", x.told(2, 0), 2);
        });
        test(9, "1 its ROOT (NONE),", () -> {
            LifeKeys x = rich();
            is("of a MADE one", x.told(2, 1), 1);
            is("of a PLAIN one", x.told(0, 1), NONE);
            is("of a ROOT", x.told(1, 1), NONE);
            LifeKeys y = new LifeKeys();
            y.key(5, true);
            make(y, 0, "a");
            is("the very first KEY", y.told(1, 1), 0);
        });
        test(9, "2 the DAY it is BURNT from as known NOW (NONE),", () -> {
            LifeKeys x = rich();
            is("a DAY to come", x.told(3, 2), 9);
            is("not told", x.told(1, 2), NONE);
            x.burn(1, 0);
            is("DAY 0", x.told(1, 2), 0);
            x.burn(4, 2000);
            is("DAY 2,000", x.told(4, 2), 2000);
            x.burn(4, 1999);
            is("the least", x.told(4, 2), 1999);
            x.burn(4, 2000);
            is("the least still", x.told(4, 2), 1999);
        });
        test(9, "3 since when it is OLD (NONE),", () -> {
            LifeKeys x = new LifeKeys();
            x.key(5, false);
            x.key(5, false);
            x.old(0);
            x.days(2);
            x.old(1);
            x.days(1);
            is("since DAY 0", x.told(0, 3), 0);
            is("since DAY 2", x.told(1, 3), 2);
            is("not told", rich().told(0, 3), NONE);
        });
        test(9, "4 its PARTING IN FORCE told last (NONE).", () -> {
            LifeKeys x = rich();
            is("the only one, the very first", x.told(3, 4), 0);
            is("the one that was parted again", x.told(4, 4), 2);
            is("none", x.told(0, 4), NONE);
            x.part(4, 1, 1, 1);
            is("the last told", x.told(4, 4), 3);
            x.again(2, 1);
            is("the last told, though of another one", x.told(4, 4), 4);
            x.part(3, 1, 1, 1);
            is("another KEY's does not count", x.told(4, 4), 4);
            x.again(4, 1);
            is("OUT ones do not count", x.told(4, 4), 6);
        });
        test(9, "NONE for others.", () -> {
            for (int what : noSuch(5)) {
                for (int key = 0; key < Twins.KEYS; key++) {
                    is("told(" + key + ", " + what + ")", rich().told(key, what), NONE);
                }
            }
            for (int key : noSuch(Twins.KEYS)) {
                for (int what = 0; what < 5; what++) {
                    is("told(" + key + ", " + what + ")", rich().told(key, what), NONE);
                }
            }
            none("told(0, 5)", x -> x.told(0, 5));
            none("told(5, 0)", x -> x.told(5, 0));
        });
    }

    private static void give() {
        test(10, "A HOLDER is given a KEY.", () -> {
            LifeKeys x = with(12);
            for (int i = 0; i < 40; i++) {
                x.key(1, false);
            }
            is("the first to the first", x.give(0, 0), true);
            is("the last to the last", x.give(11, 39), true);
            is("the last to the first", x.give(0, 39), true);
            is("got", x.got(1, 0), 1L | 1L << 39);
            is("got", x.got(1 << 11, 0), 1L << 39);
        });
        test(10, "False: no such ones,", () -> {
            for (int holder : noSuch(Twins.HOLDERS)) {
                no("give(" + holder + ", 1)", x -> x.give(holder, 1));
            }
            for (int key : noSuch(Twins.KEYS)) {
                no("give(3, " + key + ")", x -> x.give(3, key));
            }
            no(BoundsOfKeys::fullHolders, "give(12, 1)", x -> x.give(12, 1));
            no(BoundsOfKeys::fullKeys, "give(3, 40)", x -> x.give(3, 40));
            // A shift by 64 would go round to KEY 0.
            no(BoundsOfKeys::fullKeys, "give(3, 64)", x -> x.give(3, 64));
        });
        test(10, "it HAS it.", () -> {
            no("give(0, 0)", x -> x.give(0, 0));
            LifeKeys x = rich();
            is("another one is given it", x.give(1, 0), true);
            is("what is GOT, but not HAD, is given", x.give(0, 3), true);
            x.take(0, 0);
            is("what was taken away is given", x.give(0, 0), true);
            is("not twice", x.give(0, 0), false);
        });
    }

    private static void take() {
        test(11, "It is taken away.", () -> {
            LifeKeys x = rich();
            is("take", x.take(0, 0), true);
            is("got", x.got(1, Twins.NOW), 0);
            is("others keep theirs", x.got(2, Twins.NOW), 0b110);
        });
        test(11, "False: no such ones,", () -> {
            for (int holder : noSuch(Twins.HOLDERS)) {
                no("take(" + holder + ", 0)", x -> x.take(holder, 0));
            }
            for (int key : noSuch(Twins.KEYS)) {
                no("take(0, " + key + ")", x -> x.take(0, key));
            }
            no(BoundsOfKeys::fullKeys, "take(0, 64)", x -> x.take(0, 64));
            no(BoundsOfKeys::fullKeys, "take(0, 40)", x -> x.take(0, 40));
        });
        test(11, "it does not HAVE it.", () -> {
            no("never given", x -> x.take(2, 0));
            no("taken away before", x -> x.take(3, 4));
            no("got by a WRAP, not HAD", x -> x.take(0, 3));
            no("got as MADE, not HAD", x -> x.take(1, 2));
        });
    }

    private static void wrap() {
        test(12, "A WRAP: its number.", () -> {
            LifeKeys x = rich();
            is("its number", x.wrap(0, 1), 2);
            is("the same once more", x.wrap(0, 1), 3);
            is("the other way round", x.wrap(1, 0), 4);
            is("count", x.count(4), 4);
        });
        test(12, "NONE: no such KEYS,", () -> {
            for (int key : noSuch(Twins.KEYS)) {
                none("wrap(" + key + ", 0)", x -> x.wrap(key, 0));
                none("wrap(0, " + key + ")", x -> x.wrap(0, key));
                none("wrap(" + key + ", " + key + ")", x -> x.wrap(key, key));
            }
            is("the first and the last", rich().wrap(0, Twins.KEYS - 1), 2);
            is("the last and the first", rich().wrap(Twins.KEYS - 1, 0), 2);
        });
        test(12, "alike,", () -> {
            for (int key = 0; key < Twins.KEYS; key++) {
                int same = key;
                none("wrap(" + key + ", " + key + ")", x -> x.wrap(same, same));
            }
        });
        test(12, "there are 40.", () -> {
            LifeKeys x = new LifeKeys();
            x.key(1, false);
            x.key(1, false);
            for (int i = 0; i < 39; i++) {
                x.wrap(0, 1);
            }
            is("the 40th", x.wrap(0, 1), 39);
            is("a 41st", x.wrap(0, 1), NONE);
            none(BoundsOfKeys::fullWraps, "a 41st", y -> y.wrap(0, 1));
        });
    }

    private static void cut() {
        test(13, "A WRAP is cut away.", () -> {
            LifeKeys x = rich();
            is("cut", x.cut(0), true);
            is("count", x.count(4), 0);
            is("what lay in it is not GOT", x.got(1, Twins.NOW), 1);
            LifeKeys y = built(BoundsOfKeys::fullWraps);
            is("the last of 40", y.cut(39), true);
        });
        test(13, "False: no such one,", () -> {
            for (int wrap : noSuch(Twins.WRAPS)) {
                no("cut(" + wrap + ")", x -> x.cut(wrap));
            }
            no(BoundsOfKeys::fullWraps, "cut(40)", x -> x.cut(40));
        });
        test(13, "it is.", () -> {
            no("cut before", x -> x.cut(Twins.WRAP_CUT));
            no(x -> {
                Twins.rich(x);
                x.cut(0);
            }, "cut on the same DAY", x -> x.cut(0));
        });
    }
}
