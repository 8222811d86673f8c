import java.math.BigInteger;

/** PARTINGS, the BENCH, and what is GOT: promises 14 to 22. */
final class BoundsOfPartings extends Bounds {
    private static final long[] SEEDS = {0, 1, -1, 5, 42, Long.MAX_VALUE, Long.MIN_VALUE, Long.MAX_VALUE - 1,
        Long.MIN_VALUE + 1, 1L << 33, -1L << 33, 6364136223846793005L, 1442695040888963407L};

    static void all() {
        termsOfCurves();
        termsOfForce();
        termsOfJoining();
        termsOfGetting();
        part();
        again();
        piece();
        checks();
        fits();
        lay();
        join();
        left();
        got();
    }

    static void fullPartings(LifeKeys x) {
        Twins.rich(x);
        for (int i = Twins.PARTINGS; i < 40; i++) {
            x.part(i % 4, 1 + i % 7, 1, i);
        }
    }

    private static LifeKeys parted(int holders, int set, int secret, int need, long seed) {
        LifeKeys x = with(holders);
        x.key(secret, false);
        is("part", x.part(0, set, need, seed), 0);
        return x;
    }

    private static void termsOfCurves() {
        terms("PARTINGS (40 at most) of a KEY among HOLDERS (bits) with a NEED (1 .. as many as these are):", () -> {
            LifeKeys x = with(12);
            x.key(5, false);
            is("NEED 0 of 3", x.part(0, 0b111, 0, 1), NONE);
            is("NEED 1 of 3", x.part(0, 0b111, 1, 1), 0);
            is("NEED 3 of 3", x.part(0, 0b111, 3, 1), 1);
            is("NEED 4 of 3", x.part(0, 0b111, 4, 1), NONE);
            is("NEED 3 of 3, of which one is the twelfth", x.part(0, 0b100000010001, 3, 1), 2);
            is("NEED 12 of 12", x.part(0, 4095, 12, 1), 3);
            is("NEED 13 of 12", x.part(0, 4095, 13, 1), NONE);
            is("NEED 2 of 1", x.part(0, 1 << 11, 2, 1), NONE);
            is("NEED 1 of 1", x.part(0, 1 << 11, 1, 1), 4);
            for (int i = 5; i < 40; i++) {
                is("part", x.part(0, 1, 1, 1), i);
            }
            is("a 41st", x.part(0, 1, 1, 1), NONE);
        });
        terms("a curve whose value at x is the sum of a(j) times x to the j, j of 0 to NEED less 1; a(0) is the SECRET;", () -> {
            for (int need = 1; need <= 12; need++) {
                LifeKeys x = parted(12, 4095, 1018, need, 77);
                int[] a = curve(1018, need, 77);
                for (int i = 0; i < 12; i++) {
                    is("NEED " + need + ", piece " + i, x.piece(0, i), valueAt(a, i + 1));
                }
                is("a(0)", x.checks(0, 0), 510);
                is("a(NEED less 1)", x.checks(0, need - 1), power(4, a[need - 1]));
                is("a(NEED)", x.checks(0, need), NONE);
            }
        });
        terms("y, at first the seed, becomes y times 6364136223846793005 and 1442695040888963407 (64 bits, going round)"
            + " for each further a(j), which is y shifted right by 33 (without sign), modulo 1,019.", BoundsOfPartings::seeds);
        terms("The PART of HOLDER i is the value at i and 1.", () -> {
            LifeKeys x = parted(12, 4095, 5, 2, 9);
            int a = curve(5, 2, 9)[1];
            is("of the first: at 1", x.piece(0, 0), (5 + a) % 1019);
            is("of the last: at 12", x.piece(0, 11), (5 + 12 * a) % 1019);
        });
        terms("CHECK j: 4 to the a(j).", () -> {
            for (long seed = 0; seed < 40; seed++) {
                LifeKeys x = parted(3, 7, 5, 3, seed);
                int[] a = curve(5, 3, seed);
                for (int j = 0; j < 3; j++) {
                    is("check " + j, x.checks(0, j), power(4, a[j]));
                }
            }
        });
    }

    /** Reckoned with numbers that do not go round by themselves. */
    private static void seeds() {
        BigInteger round = BigInteger.ONE.shiftLeft(64);
        for (long seed : SEEDS) {
            LifeKeys x = parted(12, 4095, 1, 12, seed);
            BigInteger y = BigInteger.valueOf(seed).mod(round);
            for (int j = 1; j < 12; j++) {
                y = y.multiply(new BigInteger("6364136223846793005")).add(new BigInteger("1442695040888963407")).mod(round);
                int a = y.shiftRight(33).mod(BigInteger.valueOf(1019)).intValue();
                is("seed " + seed + ", check " + j, x.checks(0, j), power(4, a));
            }
        }
        // Of this seed a(1) is 0, so that the line is flat; and of this one 1,018.
        LifeKeys flat = parted(2, 3, 5, 2, seedFor(0));
        is("a(1) is 0", flat.checks(0, 1), 1);
        is("flat", flat.piece(0, 1), 5);
        LifeKeys down = parted(2, 3, 5, 2, seedFor(1018));
        is("a(1) is 1,018", down.checks(0, 1), 510);
        is("at 1", down.piece(0, 0), 4);
        is("at 2", down.piece(0, 1), 3);
    }

    static long seedFor(int a1) {
        long seed = 0;
        while (curve(1, 2, seed)[1] != a1) {
            seed++;
        }
        return seed;
    }

    private static void termsOfForce() {
        terms("PARTED AGAIN: a PARTING more of the same KEY, HOLDERS, NEED, by another seed;", () -> {
            LifeKeys x = parted(5, 0b11010, 1018, 2, 3);
            is("again", x.again(0, 4), 1);
            int[] a = curve(1018, 2, 4);
            for (int i = 0; i < 5; i++) {
                is("piece " + i, x.piece(1, i), (0b11010 >> i & 1) == 1 ? valueAt(a, i + 1) : NONE);
            }
            is("NEED", x.checks(1, 1), power(4, a[1]));
            is("NEED", x.checks(1, 2), NONE);
            is("the KEY", x.told(0, 4), 1);
            is("count", x.count(3), 2);
            is("even by the same seed", x.again(1, 4), 2);
            is("its parts are the same then", x.piece(2, 1), x.piece(1, 1));
        });
        terms("the elder one is OUT (that DAY not IN FORCE any more; so once).", () -> {
            LifeKeys x = parted(3, 0b111, 5, 2, 3);
            x.seal(1, 0, false);
            x.days(4);
            is("before: in force", x.several(0, 0b011, 0, 1), 0);
            is("again", x.again(0, 4), 1);
            is("once", x.again(0, 4), NONE);
            is("that DAY not in force", x.several(0, 0b011, 0, 1), NONE);
            is("the younger is", x.several(1, 0b011, 0, 1), 1);
            x.days(1);
            is("nor later", x.several(0, 0b011, 0, 1), NONE);
            is("once", x.again(0, 4), NONE);
        });
        terms("A PARTING is IN FORCE on DAYS from its own on till it is OUT.", () -> {
            LifeKeys x = with(2);
            x.key(5, false);
            x.days(2);
            x.part(0, 0b11, 2, 1);
            x.days(3);
            is("the DAY before", x.got(0b11, 1), 0);
            is("its own DAY", x.got(0b11, 2), 1);
            is("later", x.got(0b11, 5), 1);
            // By its younger one NOW, by itself before: no DAY is without.
            x.again(0, 2);
            x.days(1);
            for (int day = 2; day <= 6; day++) {
                is("DAY " + day, x.got(0b11, day), 1);
                is("not by one, DAY " + day, x.got(0b01, day), 0);
            }
        });
    }

    private static void termsOfJoining() {
        terms("A number FITS as PART of HOLDER i in a PARTING, if 4 to it is the product of CHECKS j to the (i and 1) to the j.", () -> {
            for (int need = 1; need <= 12; need += 11) {
                int[] a = curve(5, need, 3);
                for (int number = 0; number < 1019; number++) {
                    LifeKeys x = parted(12, 4095, 5, need, 3);
                    for (int i = 0; i < 12; i += 11) {
                        is("number " + number + " of " + i, x.fits(0, i, number), valueAt(a, i + 1) == number ? 1 : 0);
                    }
                }
            }
        });
        terms("JOINED of numbers told one by one (each as PART of a HOLDER; the BENCH, 12 at most, each HOLDER once):", () -> {
            LifeKeys x = with(12);
            for (int i = 0; i < 12; i++) {
                is("lay", x.lay(i, 1018 - i), i + 1);
                is("twice", x.lay(i, 1018 - i), NONE);
            }
            is("twelve", x.count(12), 12);
            is("no thirteenth", x.lay(12, 1), NONE);
            is("1,019 less place", x.join(), 0);
        });
        terms("the value at 0 of the curve of lowest degree through them.", () -> {
            int[][] curves = {{0}, {1018}, {7, 500}, {3, 2, 1}, {1018, 1018, 1018, 1018}, {0, 0, 0, 0, 0, 1}, {9, 0, 0, 0, 0, 0, 0, 0, 0, 0, 0, 1018}};
            for (int[] a : curves) {
                LifeKeys x = with(12);
                for (int many = a.length; many <= 12; many++) {
                    // The highest first: the order in which they are told does not matter.
                    for (int i = many - 1; i >= 0; i--) {
                        x.lay(11 - i, valueAt(a, 12 - i));
                    }
                    is(many + " on a curve with " + a.length, x.join(), a[0]);
                }
            }
            LifeKeys x = with(2);
            x.lay(1, 30);
            is("one alone: a flat line", x.join(), 30);
        });
        terms("LEFT: how many more PARTS a set of HOLDERS needs (0 at least).", () -> {
            LifeKeys x = parted(5, 0b01111, 5, 3, 1);
            is("none of them", x.left(0, 0b10000), 3);
            is("two of them", x.left(0, 0b10011), 1);
            is("three of them", x.left(0, 0b00111), 0);
            is("four of them", x.left(0, 0b01111), 0);
        });
    }

    private static void termsOfGetting() {
        terms("GOT by a set of HOLDERS on a DAY are of KEYS told up to it:", () -> {
            LifeKeys x = with(1);
            x.key(5, true);
            x.give(0, 0);
            x.days(2);
            make(x, 0, "a");
            x.days(1);
            is("MADE later", x.got(1, 1), 0b01);
            is("MADE on that DAY", x.got(1, 2), 0b11);
            is("MADE before", x.got(1, 3), 0b11);
        });
        terms("KEYS that one of them HAS;", () -> {
            LifeKeys x = with(12);
            x.key(5, false);
            x.key(6, false);
            x.give(0, 0);
            x.give(11, 1);
            is("the first", x.got(1, 0), 0b01);
            is("the last", x.got(1 << 11, 0), 0b10);
            is("both", x.got(1 | 1 << 11, 0), 0b11);
            is("the others", x.got(4095 & ~(1 | 1 << 11), 0), 0);
        });
        terms("KEYS of PARTINGS IN FORCE of which so many are among its HOLDERS as NEED;", () -> {
            for (int need = 1; need <= 12; need++) {
                LifeKeys x = parted(12, 4095, 5, need, 3);
                is("one less than " + need, x.got((1 << need - 1) - 1, 0), need == 1 ? NONE : 0);
                is("as many as " + need, x.got((1 << need) - 1, 0), 1);
                is("all, NEED " + need, x.got(4095, 0), 1);
            }
            LifeKeys x = parted(4, 0b0011, 5, 2, 3);
            is("others do not count", x.got(0b1101, 0), 0);
            x.again(0, 9);
            is("one more of both together is no more", x.got(0b0001, 0), 0);
        });
        terms("MADE ones of ROOTS that are GOT;", () -> {
            LifeKeys x = with(2);
            x.key(5, true);
            make(x, 0, "a");
            x.give(0, 0);
            x.give(1, 1);
            is("the ROOT and what is MADE of it", x.got(1, 0), 0b11);
            is("what is MADE, not the ROOT", x.got(2, 0), 0b10);
        });
        terms("inner ones of WRAPS of that DAY whose outer one is GOT;", () -> {
            LifeKeys x = with(2);
            x.key(5, false);
            x.key(6, false);
            x.give(0, 1);
            x.give(1, 0);
            x.days(1);
            x.wrap(0, 1);
            x.days(1);
            x.cut(0);
            is("before it was wrapped", x.got(1, 0), 0b10);
            is("that DAY", x.got(1, 1), 0b11);
            is("when it was cut away", x.got(1, 2), 0b10);
            is("not the outer one by the inner", x.got(2, 1), 0b01);
        });
        terms("and so on.", BoundsOfPartings::longChains);
    }

    private static void longChains() {
        LifeKeys up = with(1);
        LifeKeys down = with(1);
        for (int i = 0; i < 40; i++) {
            up.key(1, false);
            down.key(1, false);
        }
        for (int i = 0; i < 39; i++) {
            up.wrap(i, i + 1);
            down.wrap(i + 1, i);
        }
        up.give(0, 39);
        down.give(0, 0);
        is("40 in one another", up.got(1, 0), (1L << 40) - 1);
        is("40 in one another, the other way", down.got(1, 0), (1L << 40) - 1);
        up.wrap(39, 0);
        is("round", up.got(1, 0), (1L << 40) - 1);
        LifeKeys x = with(2);
        x.key(5, true);
        make(x, 0, "a");
        x.key(6, true);
        make(x, 2, "a");
        x.wrap(2, 1);
        x.part(0, 0b11, 2, 1);
        is("parted, MADE, wrapped, MADE", x.got(0b11, 0), 0b1111);
        is("by one of two", x.got(0b01, 0), 0);
    }

    private static void part() {
        test(14, "A PARTING: its number.", () -> {
            LifeKeys x = rich();
            is("its number", x.part(0, 0b11111, 5, 1), Twins.PARTINGS);
            is("the next", x.part(0, 0b11111, 5, 1), Twins.PARTINGS + 1);
            is("both have their parts", x.piece(3, 4), x.piece(4, 4));
            is("the last told", x.told(0, 4), Twins.PARTINGS + 1);
        });
        test(14, "NONE: no such KEY,", () -> {
            for (int key : noSuch(Twins.KEYS)) {
                none("part(" + key + ", 3, 1, 1)", x -> x.part(key, 3, 1, 1));
            }
            is("the last", rich().part(Twins.KEYS - 1, 3, 1, 1), Twins.PARTINGS);
            is("the first", rich().part(0, 3, 1, 1), Twins.PARTINGS);
        });
        test(14, "HOLDERS (one at least),", () -> {
            for (int set : noSet(Twins.HOLDERS)) {
                none("part(0, " + set + ", 1, 1)", x -> x.part(0, set, 1, 1));
            }
            is("one", rich().part(0, 1, 1, 1), Twins.PARTINGS);
            is("the last", rich().part(0, 1 << Twins.HOLDERS - 1, 1, 1), Twins.PARTINGS);
            is("all", rich().part(0, (1 << Twins.HOLDERS) - 1, 1, 1), Twins.PARTINGS);
            for (int set : noSet(12)) {
                none(BoundsOfKeys::fullHolders, "part(0, " + set + ", 1, 1) of twelve", x -> x.part(0, set, 1, 1));
            }
        });
        test(14, "NEED,", () -> {
            for (int need : new int[] {0, -1, 4, 5, MIN, MAX}) {
                none("part(0, 7, " + need + ", 1)", x -> x.part(0, 7, need, 1));
            }
            none("part(0, 16, 2, 1)", x -> x.part(0, 16, 2, 1));
            is("1 of 3", rich().part(0, 7, 1, 1), Twins.PARTINGS);
            is("3 of 3", rich().part(0, 7, 3, 1), Twins.PARTINGS);
            is("3 of 3, others", rich().part(0, 0b10101, 3, 1), Twins.PARTINGS);
        });
        test(14, "there are 40.", () -> {
            LifeKeys x = with(1);
            x.key(5, false);
            for (int i = 0; i < 39; i++) {
                x.part(0, 1, 1, 1);
            }
            is("the 40th", x.part(0, 1, 1, 1), 39);
            is("a 41st", x.part(0, 1, 1, 1), NONE);
            none(BoundsOfPartings::fullPartings, "a 41st", y -> y.part(0, 1, 1, 1));
        });
    }

    private static void again() {
        test(15, "PARTED AGAIN: its number.", () -> {
            LifeKeys x = rich();
            is("its number", x.again(0, 1), Twins.PARTINGS);
            is("of the younger one", x.again(Twins.PARTINGS, 1), Twins.PARTINGS + 1);
        });
        test(15, "NONE: no such PARTING,", () -> {
            for (int parting : noSuch(Twins.PARTINGS)) {
                none("again(" + parting + ", 1)", x -> x.again(parting, 1));
            }
            is("the first", rich().again(0, 1), Twins.PARTINGS);
            is("the last", rich().again(Twins.PARTINGS - 1, 1), Twins.PARTINGS);
        });
        test(15, "it is OUT,", () -> {
            none("OUT since an elder DAY", x -> x.again(Twins.PARTING_OUT, 1));
            none(x -> {
                Twins.rich(x);
                x.again(0, 1);
            }, "OUT since NOW", x -> x.again(0, 1));
        });
        test(15, "there are 40.", () -> {
            LifeKeys x = with(1);
            x.key(5, false);
            for (int i = 0; i < 39; i++) {
                x.part(0, 1, 1, 1);
            }
            is("the 40th", x.again(0, 1), 39);
            is("a 41st", x.again(1, 1), NONE);
            is("the elder one stays in force", x.better(1), 1);
            none(BoundsOfPartings::fullPartings, "a 41st", y -> y.again(0, 1));
        });
    }

    private static void piece() {
        test(16, "The PART of a HOLDER.", () -> {
            LifeKeys x = rich();
            int[] a = curve(7, 2, 5);
            for (int i = 0; i < 3; i++) {
                is("piece " + i, x.piece(0, i), valueAt(a, i + 1));
            }
            is("of one that is OUT", x.piece(Twins.PARTING_OUT, 4), valueAt(curve(1018, 3, 6), 5));
            LifeKeys y = parted(1, 1, 1018, 1, 9);
            is("NEED 1: the SECRET itself", y.piece(0, 0), 1018);
        });
        test(16, "NONE: no such ones,", () -> {
            for (int parting : noSuch(Twins.PARTINGS)) {
                none("piece(" + parting + ", 1)", x -> x.piece(parting, 1));
            }
            for (int holder : noSuch(Twins.HOLDERS)) {
                none("piece(0, " + holder + ")", x -> x.piece(0, holder));
            }
            // A shift by 32 would go round to HOLDER 0.
            none("piece(0, 32)", x -> x.piece(0, 32));
        });
        test(16, "it is none of its HOLDERS.", () -> {
            none("above", x -> x.piece(0, 3));
            none("above all", x -> x.piece(0, 4));
            none("below", x -> x.piece(2, 0));
            is("the lowest", rich().piece(2, 1) != NONE, true);
            is("the highest", rich().piece(2, 4) != NONE, true);
        });
    }

    private static void checks() {
        test(17, "CHECK j.", () -> {
            LifeKeys x = rich();
            is("check 0", x.checks(0, 0), power(4, 7));
            is("check 1", x.checks(0, 1), power(4, curve(7, 2, 5)[1]));
            is("of one that is OUT", x.checks(Twins.PARTING_OUT, 2), power(4, curve(1018, 3, 6)[2]));
        });
        test(17, "NONE: no such ones.", () -> {
            for (int parting : noSuch(Twins.PARTINGS)) {
                none("checks(" + parting + ", 0)", x -> x.checks(parting, 0));
            }
            for (int j : noSuch(2)) {
                none("checks(0, " + j + ")", x -> x.checks(0, j));
            }
            none("checks(2, 3), of NEED 3", x -> x.checks(2, 3));
            is("checks(2, 2), of NEED 3", rich().checks(2, 2), power(4, curve(1018, 3, 7)[2]));
            is("12 of NEED 12", parted(12, 4095, 5, 12, 1).checks(0, 12), NONE);
            is("11 of NEED 12", parted(12, 4095, 5, 12, 1).checks(0, 11) > 0, true);
        });
    }

    private static void fits() {
        test(18, "Whether a number (0 .. 1,018) FITS (1, 0).", () -> {
            LifeKeys x = with(1);
            x.key(1018, false);
            x.part(0, 1, 1, 1);
            is("1,018 fits", x.fits(0, 0, 1018), 1);
            is("0 does not", x.fits(0, 0, 0), 0);
            // A line from 1 down by 1: 0 at the first HOLDER.
            LifeKeys y = parted(2, 3, 1, 2, seedFor(1018));
            is("0 fits", y.fits(0, 0, 0), 1);
            is("1,018 does not", y.fits(0, 0, 1018), 0);
            is("1,018 of the second", y.fits(0, 1, 1018), 1);
            for (int number : new int[] {-1, 1019, 1020, 2037, 2038, MIN, MAX}) {
                none("fits(0, 0, " + number + ")", z -> z.fits(0, 0, number));
            }
            LifeKeys z = rich();
            is("the true PART and 1,019", z.fits(0, 0, z.piece(0, 0) + 1019), NONE);
            is("the true PART of one that is OUT", z.fits(1, 1, z.piece(1, 1)), 1);
        });
        test(18, "NONE: no such ones,", () -> {
            for (int parting : noSuch(Twins.PARTINGS)) {
                none("fits(" + parting + ", 1, 5)", x -> x.fits(parting, 1, 5));
            }
            for (int holder : noSuch(Twins.HOLDERS)) {
                none("fits(0, " + holder + ", 5)", x -> x.fits(0, holder, 5));
            }
            none("fits(0, 32, 5)", x -> x.fits(0, 32, 5));
        });
        test(18, "it is none of its HOLDERS.", () -> {
            none("above", x -> x.fits(0, 3, 5));
            none("below", x -> x.fits(2, 0, 5));
            is("the lowest", rich().fits(2, 1, 5) != NONE, true);
            is("the highest", rich().fits(2, 4, 5) != NONE, true);
        });
    }

    private static void lay() {
        test(19, "A number on the BENCH as PART of a HOLDER: how many lie there.", () -> {
            LifeKeys x = with(12);
            is("the last HOLDER", x.lay(11, 5), 1);
            is("the first", x.lay(0, 5), 2);
            is("count", x.count(12), 2);
            for (int i = 1; i < 11; i++) {
                is("lay", x.lay(i, 5), i + 2);
            }
            is("a flat line", x.join(), 5);
        });
        test(19, "NONE: number,", () -> {
            LifeKeys x = rich();
            is("0", x.lay(1, 0), Twins.BENCH + 1);
            is("1,018", x.lay(2, 1018), Twins.BENCH + 2);
            for (int number : new int[] {-1, 1019, 1020, MIN, MAX}) {
                none("lay(1, " + number + ")", y -> y.lay(1, number));
            }
        });
        test(19, "no such HOLDER,", () -> {
            for (int holder : noSuch(Twins.HOLDERS)) {
                none("lay(" + holder + ", 5)", x -> x.lay(holder, 5));
            }
            none(BoundsOfKeys::fullHolders, "lay(12, 5)", x -> x.lay(12, 5));
            none(BoundsOfKeys::fullHolders, "lay(33, 5)", x -> x.lay(33, 5));
        });
        test(19, "one of it lies there.", () -> {
            none("another number", x -> x.lay(0, 18));
            none("the same number", x -> x.lay(3, 900));
            LifeKeys x = rich();
            x.join();
            is("not any more", x.lay(0, 18), 1);
        });
    }

    private static void join() {
        test(20, "JOINED (the BENCH is empty then).", () -> {
            LifeKeys x = rich();
            x.lay(1, 5);
            x.join();
            is("empty", x.count(12), 0);
            is("all may lie there anew", x.lay(0, 5), 1);
            is("what lay there is gone", x.join(), 5);
        });
        test(20, "NONE: an empty BENCH.", () -> {
            is("never laid", new LifeKeys().join(), NONE);
            none(x -> {
                Twins.rich(x);
                x.join();
            }, "joined before", LifeKeys::join);
            LifeKeys x = with(1);
            x.lay(0, 0);
            is("a 0 is a number", x.join(), 0);
            is("gone", x.join(), NONE);
        });
    }

    private static void left() {
        test(21, "LEFT.", () -> {
            for (int need = 1; need <= 12; need++) {
                LifeKeys x = parted(12, 4095, 5, need, 1);
                for (int many = 1; many <= 12; many++) {
                    is("NEED " + need + ", " + many, x.left(0, (1 << many) - 1), many >= need ? 0 : need - many);
                }
            }
        });
        test(21, "NONE: no such PARTING,", () -> {
            for (int parting : noSuch(Twins.PARTINGS)) {
                none("left(" + parting + ", 1)", x -> x.left(parting, 1));
            }
            is("the first", rich().left(0, 1), 1);
            is("the last", rich().left(Twins.PARTINGS - 1, 1), 3);
        });
        test(21, "HOLDERS (one at least).", () -> {
            for (int set : noSet(Twins.HOLDERS)) {
                none("left(0, " + set + ")", x -> x.left(0, set));
            }
            is("one", rich().left(0, 1), 1);
            is("all", rich().left(0, 31), 0);
        });
    }

    private static void got() {
        test(22, "GOT by HOLDERS (one at least) on a DAY (0 .. NOW): KEYS as bits.", () -> {
            LifeKeys x = rich();
            is("DAY 0", x.got(1, 0), 0b01001);
            is("NOW", x.got(1, Twins.NOW), 0b01001);
            is("all", x.got(31, Twins.NOW), 0b11111);
            is("the last", x.got(16, Twins.NOW), 0);
            LifeKeys y = with(1);
            for (int i = 0; i < 40; i++) {
                y.key(1, false);
                y.give(0, i);
            }
            is("40 bits", y.got(1, 0), (1L << 40) - 1);
            y.take(0, 31);
            y.take(0, 32);
            is("without the 32nd and the 33rd", y.got(1, 0), (1L << 40) - 1 - (3L << 31));
        });
        test(22, "-1: no such ones.", () -> {
            for (int set : noSet(Twins.HOLDERS)) {
                none("got(" + set + ", 0)", x -> x.got(set, 0));
            }
            for (int day : new int[] {-1, Twins.NOW + 1, 2000, 2001, MIN, MAX}) {
                none("got(1, " + day + ")", x -> x.got(1, day));
            }
        });
    }
}
