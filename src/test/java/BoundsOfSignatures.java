/** SIGNATURES, BURNT and OLD KEYS, and KEYS that are LENT: promises 33 to 43. */
final class BoundsOfSignatures extends Bounds {
    static void all() {
        termsOfSigning();
        termsOfTaking();
        termsOfSeveral();
        termsOfFalseOnes();
        termsOfBurning();
        termsOfLending();
        sign();
        falsely();
        several();
        signed();
        taken();
        burn();
        old();
        stands();
        lend();
        use();
        back();
    }

    static void fullSignatures(LifeKeys x) {
        Twins.rich(x);
        for (int i = Twins.SIGNATURES; i < 80; i++) {
            x.sign(1, Twins.ROOT, i % 3, i);
        }
    }

    static void fullBurns(LifeKeys x) {
        Twins.rich(x);
        for (int i = 2; i < 60; i++) {
            x.burn(Twins.MADE, 2000 - i);
        }
    }

    static void fullLent(LifeKeys x) {
        Twins.rich(x);
        for (int i = Twins.LENT; i < 40; i++) {
            x.lend(i % 4, 1, 20, 1 + i, NONE);
        }
    }

    /** One HOLDER that has one KEY, and one THING. */
    private static LifeKeys signer(int secret, int digest) {
        LifeKeys x = with(1);
        x.key(secret, false);
        x.give(0, 0);
        x.seal(digest, 0, false);
        return x;
    }

    /** As many HOLDERS as told with a parted KEY, and one THING. */
    private static LifeKeys signers(int holders, int need, int secret, int digest, long seed) {
        LifeKeys x = with(holders);
        x.key(secret, false);
        x.part(0, (1 << holders) - 1, need, seed);
        x.seal(digest, 0, false);
        return x;
    }

    private static void termsOfSigning() {
        terms("SIGNATURES (80 at most) of a THING by a KEY: r and s;", () -> {
            LifeKeys x = signer(5, 1);
            for (int i = 0; i < 80; i++) {
                is("sign", x.sign(0, 0, 0, 1 + i), i);
            }
            is("an 81st", x.sign(0, 0, 0, 1), NONE);
            is("r of the last", x.signed(79, 0), power(4, 80));
        });
        terms("with a start t (1 .. 1,018):", () -> {
            LifeKeys x = signer(5, 1);
            is("0", x.sign(0, 0, 0, 0), NONE);
            is("1", x.sign(0, 0, 0, 1), 0);
            is("1,018", x.sign(0, 0, 0, 1018), 1);
            is("1,019", x.sign(0, 0, 0, 1019), NONE);
        });
        terms("r is 4 to the t;", () -> {
            LifeKeys x = signer(5, 1);
            int[] starts = {1, 2, 5, 6, 509, 510, 1017, 1018};
            for (int i = 0; i < starts.length; i++) {
                x.sign(0, 0, 0, starts[i]);
                is("4 to the " + starts[i], x.signed(i, 0), power(4, starts[i]));
            }
            is("4 to the 1,018", x.signed(7, 0), 510);
        });
        terms("c is r and 7 times the digest, modulo 1,019;", () -> {
            for (int digest : new int[] {0, 1, 145, 146, 1017, 1018}) {
                // With the SECRET 1, s less t is c.
                LifeKeys x = signer(1, digest);
                for (int t = 1; t <= 60; t++) {
                    x.sign(0, 0, 0, t);
                    int c = (power(4, t) + 7 * digest) % 1019;
                    is("digest " + digest + ", t " + t, Math.floorMod(x.signed(t - 1, 1) - t, 1019), c);
                }
            }
        });
        terms("s is t and c times SECRET.", () -> {
            for (int secret : new int[] {1, 2, 509, 1017, 1018}) {
                LifeKeys x = signer(secret, 1018);
                for (int i = 0; i < 40; i++) {
                    int t = 1018 - i;
                    x.sign(0, 0, 0, t);
                    is("SECRET " + secret + ", t " + t, x.signed(i, 1), (t + cOf(power(4, t), 1018) * secret) % 1019);
                }
            }
        });
        terms("s is t and c times SECRET.", () -> {
            // Where t and c times SECRET are 1,019 in all, s goes round to 0; and where one less, it is 1,018.
            is("0", sOfStart(0), 0);
            is("1,018", sOfStart(1018), 1018);
        });
    }

    private static int sOfStart(int due) {
        for (int digest = 0; digest < 1019; digest++) {
            int t = 1 + digest % 1018;
            if ((t + cOf(power(4, t), digest)) % 1019 == due) {
                LifeKeys x = signer(1, digest);
                x.sign(0, 0, 0, t);
                return x.signed(0, 1);
            }
        }
        return NONE;
    }

    private static void termsOfTaking() {
        terms("A HOLDER signs, if it alone GETS the KEY NOW,", () -> {
            LifeKeys x = with(3);
            x.key(5, true);
            make(x, 0, "a");
            x.key(6, false);
            x.seal(1, 0, false);
            x.part(0, 0b011, 2, 1);
            x.wrap(2, 1);
            is("not alone", x.sign(0, 0, 0, 1), NONE);
            x.part(0, 0b100, 1, 1);
            is("by a PARTING that needs one", x.sign(2, 0, 0, 1), 0);
            is("what is MADE of it", x.sign(2, 1, 0, 1), 1);
            is("what is wrapped in that", x.sign(2, 2, 0, 1), 2);
            x.give(0, 2);
            is("what it HAS", x.sign(0, 2, 0, 1), 3);
            x.days(1);
            x.take(0, 2);
            is("what it had yesterday", x.sign(0, 2, 0, 1), NONE);
            x.cut(0);
            is("what lay in it yesterday", x.sign(2, 2, 0, 1), NONE);
        });
        terms("and the KEY is neither BURNT as known NOW (from a DAY up to NOW)", () -> {
            LifeKeys x = signer(5, 1);
            x.days(3);
            x.burn(0, 2000);
            is("from the last DAY", x.sign(0, 0, 0, 1), 0);
            x.burn(0, 4);
            is("from tomorrow", x.sign(0, 0, 0, 1), 1);
            x.days(1);
            is("from NOW", x.sign(0, 0, 0, 1), NONE);
            LifeKeys y = signer(5, 1);
            y.days(3);
            y.burn(0, 3);
            is("from NOW, told NOW", y.sign(0, 0, 0, 1), NONE);
            LifeKeys z = signer(5, 1);
            z.key(6, false);
            z.burn(1, 0);
            is("another KEY is", z.sign(0, 0, 0, 1), 0);
            z.burn(0, 0);
            is("from DAY 0", z.sign(0, 0, 0, 1), NONE);
        });
        terms("nor OLD.", () -> {
            LifeKeys x = signer(5, 1);
            x.key(6, false);
            x.old(1);
            is("another KEY is", x.sign(0, 0, 0, 1), 0);
            x.old(0);
            is("OLD", x.sign(0, 0, 0, 1), NONE);
            x.days(1);
            is("OLD since yesterday", x.sign(0, 0, 0, 1), NONE);
        });
        terms("TAKEN are r and s for a THING and a KEY, if 4 to the s is r times PUBLIC to the c.", () -> {
            int r = power(4, 1018);
            int s = (1018 + cOf(r, 1018) * 1018) % 1019;
            for (int other = 0; other < 1019; other++) {
                LifeKeys x = signer(1018, 1018);
                is("s " + other, x.taken(0, 0, r, other), other == s ? 1 : 0);
                // No power of 4 is 2,038, so nothing is TAKEN with it.
                is("r 2,038, s " + other, x.taken(0, 0, 2038, other), 0);
            }
            LifeKeys x = signer(1018, 1018);
            x.key(5, false);
            x.seal(1017, 0, false);
            is("TAKEN though nobody signed", x.taken(0, 0, r, s), 1);
            is("another KEY", x.taken(0, 1, r, s), 0);
            is("another THING", x.taken(1, 0, r, s), 0);
            is("r and 1,019", x.taken(0, 0, r + 1019, s), 0);
        });
        terms("TAKEN are r and s for a THING and a KEY, if 4 to the s is r times PUBLIC to the c.", () -> {
            for (int r = 1; r < 2039; r += 37) {
                LifeKeys x = signer(1018, 1018);
                int right = r * power(510, cOf(r, 1018)) % 2039;
                for (int s = 0; s < 1019; s += 11) {
                    is("r " + r + ", s " + s, x.taken(0, 0, r, s), power(4, s) == right ? 1 : 0);
                }
            }
        });
    }

    private static void termsOfSeveral() {
        terms("SEVERAL HOLDERS of a PARTING IN FORCE sign (as many as NEED or more; the KEY as above):", () -> {
            for (int need = 1; need <= 12; need++) {
                LifeKeys x = signers(12, need, 77, 9, 5);
                is("one less than " + need, x.several(0, (1 << need - 1) - 1, 0, 1), NONE);
                is("as many as " + need, x.several(0, (1 << need) - 1, 0, 1), 0);
                is("all twelve, NEED " + need, x.several(0, 4095, 0, 1), 1);
                for (int i = 0; i < 2; i++) {
                    is("taken", x.taken(0, 0, x.signed(i, 0), x.signed(i, 1)), 1);
                }
            }
        });
        terms("of the lowest first, for each y as above, starting with the seed;", () -> {
            for (long seed : new long[] {0, 1, -1, 5, Long.MIN_VALUE, Long.MAX_VALUE}) {
                LifeKeys x = signers(12, 2, 77, 9, 5);
                x.several(0, 0b100000100100, 0, seed);
                int r = rOf(starts(3, seed));
                is("r, seed " + seed, x.signed(0, 0), r);
                is("s, seed " + seed, x.signed(0, 1), sumOf(starts(3, seed), cOf(r, 9) * 77));
            }
        });
        terms("of the lowest first, for each y as above, starting with the seed;", () -> {
            // Those who do not sign get no start: the first y goes to HOLDER 1.
            LifeKeys x = signers(3, 1, 77, 9, 5);
            int[] t = starts(2, 8);
            int r = rOf(t);
            x.several(0, 0b110, 0, 8);
            is("r", x.signed(0, 0), r);
            is("s", x.signed(0, 1), sumOf(t, cOf(r, 9) * 77));
        });
        terms("its t is y shifted right by 33 (without sign), modulo 1,018, and 1;", () -> {
            boolean least = false;
            boolean most = false;
            for (long seed = 0; seed < 20000 && !(least && most); seed++) {
                int t = starts(1, seed)[0];
                if (t == 1 && !least || t == 1018 && !most) {
                    least |= t == 1;
                    most |= t == 1018;
                    LifeKeys x = signers(1, 1, 77, 9, 5);
                    x.several(0, 1, 0, seed);
                    is("r of t " + t, x.signed(0, 0), t == 1 ? 4 : 510);
                }
            }
            is("both were met", least && most, true);
        });
        terms("r is the product of 4 to the t;", () -> {
            LifeKeys x = signers(12, 1, 77, 9, 5);
            for (int many = 1; many <= 12; many++) {
                x.several(0, (1 << many) - 1, 0, 3);
                is("r of " + many, x.signed(many - 1, 0), rOf(starts(many, 3)));
            }
        });
        terms("c as above;", () -> {
            for (int digest : new int[] {0, 1, 1018}) {
                LifeKeys x = signers(4, 3, 1, digest, 5);
                x.several(0, 0b1111, 0, 3);
                int[] t = starts(4, 3);
                int c = Math.floorMod(x.signed(0, 1) - sumOf(t, 0), 1019);
                is("digest " + digest, c, cOf(rOf(t), digest));
            }
        });
        terms("each gives t and c times WEIGHT times what it has as its PART", () -> {
            LifeKeys x = signers(3, 2, 1018, 1018, 5);
            for (int seed = 0; seed < 20; seed++) {
                int[] t = starts(2, seed);
                x.several(0, 0b101, 0, seed);
                int c = cOf(rOf(t), 1018);
                // WEIGHTS of places 1 and 3: 3 by 2, and 1 by -2.
                int one = t[0] + c * (3 * half(1) % 1019) % 1019 * x.piece(0, 0);
                int other = t[1] + c * (1019 - half(1)) % 1019 * x.piece(0, 2);
                is("s, seed " + seed, x.signed(seed, 1), (one % 1019 + other % 1019) % 1019);
            }
        });
        terms("WEIGHT of i among them: the product over each other k of (k and 1) by (k less i), divided modulo 1,019;", () -> {
            // Whatever the set: with its WEIGHTS the PARTS make the SECRET, so that s is TAKEN.
            for (int set = 1; set < 4096; set += set < 300 ? 1 : 97) {
                LifeKeys x = signers(12, 1, 77, 9, 5);
                x.part(0, set, Integer.bitCount(set), 6);
                is("several of " + set, x.several(1, set, 0, set), 0);
                is("taken of " + set, x.taken(0, 0, x.signed(0, 0), x.signed(0, 1)), 1);
            }
        });
        terms("s is their sum.", () -> {
            LifeKeys x = signers(12, 12, 1018, 0, 5);
            for (int seed = 0; seed < 40; seed++) {
                int[] t = starts(12, seed);
                x.several(0, 4095, 0, seed);
                is("s, seed " + seed, x.signed(seed, 1), sumOf(t, cOf(rOf(t), 0) * 1018));
            }
        });
    }

    /** n by 2, modulo 1,019. */
    private static int half(int n) {
        return n * 510 % 1019;
    }

    private static int sumOf(int[] starts, int more) {
        int sum = more % 1019;
        for (int t : starts) {
            sum = (sum + t) % 1019;
        }
        return sum;
    }

    private static void termsOfFalseOnes() {
        terms("(one that is FALSE NOW: its PART and 1);", () -> {
            LifeKeys x = signers(3, 2, 77, 9, 5);
            x.falsely(1, true);
            is("FALSE", x.several(0, 0b011, 0, 1), -3);
            x.falsely(1, false);
            is("not any more", x.several(0, 0b011, 0, 1), 0);
            x.falsely(1, true);
            is("one that does not sign", x.several(0, 0b101, 0, 1), 1);
            // A PART of 1,018 goes round to 0: still not the true one.
            LifeKeys y = signers(1, 1, 1018, 9, 5);
            y.falsely(0, true);
            is("1,018 and 1", y.several(0, 1, 0, 1), -2);
        });
        terms("If one that was given does not agree with its own CHECK (4 to it is 4 to its t, times (4 to its true PART)"
            + " to the c times WEIGHT), none is made, and the first such HOLDER is told.", () -> {
                for (int holder = 0; holder < 12; holder++) {
                    LifeKeys x = signers(12, 3, 77, 9, 5);
                    for (int i = holder; i < 12; i++) {
                        x.falsely(i, true);
                    }
                    is("from " + holder + " on all are FALSE", x.several(0, 4095, 0, 1), -2 - holder);
                    is("none is made", x.count(8), 0);
                }
            });
        terms("If one that was given does not agree with its own CHECK (4 to it is 4 to its t, times (4 to its true PART)"
            + " to the c times WEIGHT), none is made, and the first such HOLDER is told.", () -> {
                // Where c is 0 the PART does not count, and what was given agrees.
                LifeKeys x = signers(2, 2, 77, 10, 5);
                x.falsely(0, true);
                x.falsely(1, true);
                long seed = 0;
                while (cOf(rOf(starts(2, seed)), 10) != 0) {
                    seed++;
                }
                is("c is 0", x.several(0, 0b11, 0, seed), 0);
                is("taken", x.taken(0, 0, x.signed(0, 0), x.signed(0, 1)), 1);
                is("c is not 0", x.several(0, 0b11, 0, seed + 1), -2);
            });
    }

    private static void termsOfBurning() {
        terms("BURNT (60 tellings at most):", () -> {
            LifeKeys x = new LifeKeys();
            x.key(5, false);
            x.key(6, false);
            for (int i = 0; i < 60; i++) {
                is("burn", x.burn(i % 2, 2000 - i), true);
            }
            is("a 61st", x.burn(0, 0), false);
            is("it does not count", x.told(0, 2), 1942);
            is("the 60th does", x.told(1, 2), 1941);
        });
        terms("a KEY is told to be in others' hands from a DAY on (0 .. 2,000):", () -> {
            LifeKeys x = new LifeKeys();
            x.key(5, false);
            x.key(6, false);
            is("-1", x.burn(0, -1), false);
            is("0", x.burn(0, 0), true);
            is("2,000", x.burn(1, 2000), true);
            is("2,001", x.burn(1, 2001), false);
            is("0", x.told(0, 2), 0);
            is("2,000", x.told(1, 2), 2000);
        });
        terms("as known in q the least such DAY told up to q.", () -> {
            LifeKeys x = signer(5, 1);
            x.days(10);
            x.sign(0, 0, 0, 1);
            x.days(1);
            x.burn(0, 11);
            x.days(1);
            x.burn(0, 10);
            x.days(1);
            x.burn(0, 12);
            int[] due = {1, 1, 2, 2};
            for (int q = 10; q <= 13; q++) {
                is("as known in " + q, x.stands(0, q), due[q - 10]);
            }
            is("the least NOW", x.told(0, 2), 10);
        });
        terms("OLD: from the DAY it is told on.", () -> {
            LifeKeys x = signer(5, 1);
            x.days(4);
            is("before", x.sign(0, 0, 0, 1), 0);
            x.old(0);
            is("that DAY", x.sign(0, 0, 0, 1), NONE);
            x.days(1);
            is("since", x.told(0, 3), 4);
            is("what was signed stands", x.stands(0, 5), 1);
        });
        terms("A SIGNATURE made on a DAY, as known in q: STANDS (1), if the KEY is not BURNT, or from a later DAY;", () -> {
            LifeKeys x = signer(5, 1);
            x.key(6, false);
            x.days(4);
            x.sign(0, 0, 0, 1);
            is("not BURNT", x.stands(0, 4), 1);
            x.burn(1, 0);
            is("another KEY is", x.stands(0, 4), 1);
            x.days(1);
            x.burn(0, 5);
            is("from the next DAY", x.stands(0, 5), 1);
            x.burn(0, 4);
            is("from the DAY it was made", x.stands(0, 5), 2);
        });
        terms("else, if on the DAY on which it was made a DAY of being BURNT up to it was told (up to that DAY): FALLEN (3);", () -> {
            LifeKeys x = signer(5, 1);
            x.days(4);
            x.sign(0, 0, 0, 1);
            x.burn(0, 5);
            is("told that DAY, from the next", x.stands(0, 4), 1);
            x.burn(0, 4);
            is("told that DAY, from that DAY", x.stands(0, 4), 3);
            x.days(5);
            is("later, too", x.stands(0, 9), 3);
            LifeKeys y = signer(5, 1);
            y.days(4);
            y.sign(0, 0, 0, 1);
            y.burn(0, 0);
            is("told that DAY, from DAY 0", y.stands(0, 4), 3);
        });
        terms("else DOUBTFUL (2).", () -> {
            LifeKeys x = signer(5, 1);
            x.days(4);
            x.sign(0, 0, 0, 1);
            x.burn(0, 6);
            x.days(1);
            x.burn(0, 4);
            is("told the next DAY, from that DAY", x.stands(0, 5), 2);
            x.burn(0, 0);
            is("told the next DAY, from DAY 0", x.stands(0, 5), 2);
            is("as known before", x.stands(0, 4), 1);
        });
    }

    private static void termsOfLending() {
        terms("LENT (40 at most):", () -> {
            LifeKeys x = with(1);
            x.key(5, false);
            for (int i = 0; i < 40; i++) {
                is("lend", x.lend(0, 0, 0, 1, NONE), i);
            }
            is("a 41st", x.lend(0, 0, 0, 1, NONE), NONE);
            x.back(39);
            is("a 41st, when one is BACK", x.lend(0, 0, 0, 1, NONE), NONE);
        });
        terms("a KEY to a HOLDER, from NOW to a DAY (that one, too),", () -> {
            LifeKeys x = signer(5, 1);
            x.days(3);
            is("to yesterday", x.lend(0, 0, 2, 9, NONE), NONE);
            is("to NOW", x.lend(0, 0, 3, 9, NONE), 0);
            is("to 5", x.lend(0, 0, 5, 9, NONE), 1);
            is("NOW", x.use(0, 0, 1), 0);
            x.days(1);
            is("the DAY after", x.use(0, 0, 1), NONE);
            x.days(1);
            is("its last DAY", x.use(1, 0, 1), 1);
            x.days(1);
            is("the DAY after", x.use(1, 0, 1), NONE);
        });
        terms("so many uses (1 .. 100),", () -> {
            LifeKeys x = signer(5, 1);
            is("0", x.lend(0, 0, 9, 0, NONE), NONE);
            is("1", x.lend(0, 0, 9, 1, NONE), 0);
            is("100", x.lend(0, 0, 9, 100, NONE), 1);
            is("101", x.lend(0, 0, 9, 101, NONE), NONE);
            for (int i = 0; i < 80; i++) {
                is("use", x.use(1, 0, 1 + i), i);
            }
        });
        terms("for a THING (or any).", () -> {
            LifeKeys x = signer(5, 1);
            x.seal(1, 0, false);
            x.lend(0, 0, 9, 9, 0);
            x.lend(0, 0, 9, 9, NONE);
            is("that THING", x.use(0, 0, 1), 0);
            is("another", x.use(0, 1, 1), NONE);
            is("any", x.use(1, 0, 1), 1);
            is("any", x.use(1, 1, 1), 2);
        });
        terms("USING signs as above (with t; the KEY asked alike, the HOLDER need not GET it):", () -> {
            LifeKeys x = with(2);
            x.key(1018, false);
            x.key(6, false);
            x.seal(1018, 0, false);
            is("lend", x.lend(0, 1, 9, 9, NONE), 0);
            is("not GOT", x.got(0b11, 0), 0);
            is("use", x.use(0, 0, 1018), 0);
            is("r", x.signed(0, 0), 510);
            is("s", x.signed(0, 1), (1018 + cOf(510, 1018) * 1018) % 1019);
            is("key", x.signed(0, 2), 0);
            x.burn(0, 1);
            is("BURNT from tomorrow", x.use(0, 0, 1), 1);
            x.days(1);
            is("BURNT", x.use(0, 0, 1), NONE);
            x.lend(1, 0, 9, 9, NONE);
            is("another KEY", x.use(1, 0, 1), 2);
            x.old(1);
            is("OLD", x.use(1, 0, 1), NONE);
        });
        terms("not, if it is BACK,", () -> none("use(2, 0, 1)", x -> x.use(Twins.LENT_BACK, 0, 1)));
        terms("beyond its DAY,", () -> {
            none(x -> {
                Twins.rich(x);
                x.days(3);
            }, "use(0, 0, 1) on DAY 10", x -> x.use(0, 0, 1));
            LifeKeys x = rich();
            x.days(2);
            is("use(0, 0, 1) on DAY 9", x.use(0, 0, 1), Twins.SIGNATURES);
        });
        terms("used so often,", () -> {
            LifeKeys x = rich();
            is("the second of 3", x.use(0, 0, 1), Twins.SIGNATURES);
            is("the third of 3", x.use(0, 0, 1), Twins.SIGNATURES + 1);
            is("a fourth", x.use(0, 0, 1), NONE);
            none(y -> {
                Twins.rich(y);
                y.use(1, 1, 1);
            }, "a second of 1", y -> y.use(1, 1, 1));
            LifeKeys y = rich();
            is("refused ones are no uses", y.use(0, 3, 1) + y.use(0, 0, 0) + y.use(0, 0, 1019), 3 * NONE);
            is("the second of 3", y.use(0, 0, 1), Twins.SIGNATURES);
            is("the third of 3", y.use(0, 0, 1), Twins.SIGNATURES + 1);
        });
        terms("or for another THING.", () -> {
            none("use(1, 0, 1)", x -> x.use(1, 0, 1));
            none("use(1, 2, 1)", x -> x.use(1, 2, 1));
            is("that THING", rich().use(1, 1, 1), Twins.SIGNATURES);
        });
    }

    private static void sign() {
        test(33, "A HOLDER signs a THING by a KEY: the SIGNATURE.", () -> {
            LifeKeys x = rich();
            is("sign", x.sign(1, 2, 2, 1018), Twins.SIGNATURES);
            is("KEY", x.signed(Twins.SIGNATURES, 2), 2);
            is("THING", x.signed(Twins.SIGNATURES, 3), 2);
            is("the same once more", x.sign(1, 2, 2, 1018), Twins.SIGNATURES + 1);
        });
        test(33, "NONE: no such ones,", () -> {
            for (int holder : noSuch(Twins.HOLDERS)) {
                none("sign(" + holder + ", 0, 0, 1)", x -> x.sign(holder, 0, 0, 1));
            }
            for (int key : noSuch(Twins.KEYS)) {
                none("sign(0, " + key + ", 0, 1)", x -> x.sign(0, key, 0, 1));
            }
            for (int thing : noSuch(Twins.THINGS)) {
                none("sign(0, 0, " + thing + ", 1)", x -> x.sign(0, 0, thing, 1));
            }
            // A shift by 64 would go round to a KEY that it HAS.
            none("sign(0, 64, 0, 1)", x -> x.sign(0, 64, 0, 1));
            is("the last THING", rich().sign(0, 0, Twins.THINGS - 1, 1), Twins.SIGNATURES);
        });
        test(33, "t,", () -> {
            for (int t : new int[] {0, -1, 1019, 1020, MIN, MAX}) {
                none("sign(0, 0, 0, " + t + ")", x -> x.sign(0, 0, 0, t));
            }
            is("1", rich().sign(0, 0, 0, 1), Twins.SIGNATURES);
            is("1,018", rich().sign(0, 0, 0, 1018), Twins.SIGNATURES);
        });
        test(33, "it may not,", () -> {
            none("it does not GET it", x -> x.sign(4, 0, 0, 1));
            none("it GETS it with another one alone", x -> x.sign(2, 3, 0, 1));
            none(x -> {
                Twins.rich(x);
                x.burn(0, Twins.NOW);
            }, "BURNT", x -> x.sign(0, 0, 0, 1));
            none(x -> {
                Twins.rich(x);
                x.old(0);
            }, "OLD", x -> x.sign(0, 0, 0, 1));
            is("BURNT from a later DAY", rich().sign(0, 0, 0, 1), Twins.SIGNATURES);
        });
        test(33, "there are 80.", () -> {
            LifeKeys x = built(BoundsOfSignatures::fullSignatures);
            is("80", x.count(8), 80);
            is("the 80th", x.signed(79, 0), power(4, 79));
            none(BoundsOfSignatures::fullSignatures, "an 81st", y -> y.sign(0, 0, 0, 1));
        });
    }

    private static void falsely() {
        test(34, "A HOLDER is FALSE from now on, or not.", () -> {
            LifeKeys x = with(12);
            is("the last", x.falsely(11, true), true);
            is("the first", x.falsely(0, true), true);
            is("the first not", x.falsely(0, false), true);
            is("the last still", x.falsely(11, true), false);
        });
        test(34, "False: no such one,", () -> {
            for (int holder : noSuch(Twins.HOLDERS)) {
                no("falsely(" + holder + ", true)", x -> x.falsely(holder, true));
                no("falsely(" + holder + ", false)", x -> x.falsely(holder, false));
            }
            no("falsely(32 and 3, false)", x -> x.falsely(35, false));
            LifeKeys x = with(4);
            x.falsely(4, true);
            x.holder();
            is("one that comes later is not FALSE", x.falsely(4, false), false);
        });
        test(34, "it is so.", () -> {
            no("FALSE", x -> x.falsely(3, true));
            no("not FALSE", x -> x.falsely(0, false));
        });
    }

    private static void several() {
        test(35, "SEVERAL sign: the SIGNATURE;", () -> {
            LifeKeys x = rich();
            is("several", x.several(0, 0b111, 2, 1), Twins.SIGNATURES);
            is("KEY", x.signed(Twins.SIGNATURES, 2), 3);
            is("THING", x.signed(Twins.SIGNATURES, 3), 2);
            is("DAY", x.signed(Twins.SIGNATURES, 4), Twins.NOW);
        });
        test(35, "-2 less the HOLDER that was FALSE.", () -> {
            Build falseOnes = x -> {
                Twins.rich(x);
                x.falsely(0, true);
                x.falsely(2, true);
            };
            refused(falseOnes, "HOLDER 0", -2, x -> x.several(0, 0b111, 0, 1));
            refused(falseOnes, "HOLDER 2", -4, x -> x.several(0, 0b110, 0, 1));
            LifeKeys x = signers(12, 1, 5, 1, 1);
            x.falsely(11, true);
            is("HOLDER 11", x.several(0, 4095, 0, 1), -13);
        });
        test(35, "NONE: no such ones,", () -> {
            for (int parting : noSuch(Twins.PARTINGS)) {
                none("several(" + parting + ", 7, 0, 1)", x -> x.several(parting, 7, 0, 1));
            }
            for (int set : noSet(Twins.HOLDERS)) {
                none("several(0, " + set + ", 0, 1)", x -> x.several(0, set, 0, 1));
            }
            for (int thing : noSuch(Twins.THINGS)) {
                none("several(0, 7, " + thing + ", 1)", x -> x.several(0, 7, thing, 1));
            }
            is("the last THING", rich().several(0, 7, Twins.THINGS - 1, 1), Twins.SIGNATURES);
        });
        test(35, "OUT,", () -> {
            // KEY 4 is OLD, so one of another KEY.
            Build out = x -> {
                Twins.rich(x);
                x.again(0, 1);
            };
            none(out, "several(0, 7, 0, 1)", x -> x.several(0, 7, 0, 1));
            is("the younger", built(out).several(Twins.PARTINGS, 7, 0, 1), Twins.SIGNATURES);
        });
        test(35, "not so many,", () -> {
            none("one of two", x -> x.several(0, 1, 0, 1));
            is("two of two", rich().several(0, 0b110, 0, 1), Twins.SIGNATURES);
            is("three of two", rich().several(0, 0b111, 0, 1), Twins.SIGNATURES);
        });
        test(35, "others among them,", () -> {
            none("enough, and one more that is none", x -> x.several(0, 0b10111, 0, 1));
            none("one, and one that is none", x -> x.several(0, 0b10001, 0, 1));
            none("none that is", x -> x.several(0, 0b11000, 0, 1));
        });
        test(35, "may not,", () -> {
            none(x -> {
                Twins.rich(x);
                x.burn(3, Twins.NOW);
            }, "BURNT", x -> x.several(0, 7, 0, 1));
            none(x -> {
                Twins.rich(x);
                x.old(3);
            }, "OLD", x -> x.several(0, 7, 0, 1));
            none(x -> {
                Twins.rich(x);
                x.days(2);
            }, "BURNT from a DAY that has come", x -> x.several(0, 7, 0, 1));
            LifeKeys x = rich();
            x.days(1);
            is("BURNT from tomorrow", x.several(0, 7, 0, 1), Twins.SIGNATURES);
        });
        test(35, "there are 80.", () -> {
            LifeKeys x = signers(2, 2, 5, 1, 1);
            for (int i = 0; i < 79; i++) {
                x.several(0, 3, 0, i);
            }
            is("the 80th", x.several(0, 3, 0, 1), 79);
            is("an 81st", x.several(0, 3, 0, 1), NONE);
            none(BoundsOfSignatures::fullSignatures, "an 81st", y -> y.several(0, 7, 0, 1));
            none(y -> {
                fullSignatures(y);
                y.falsely(0, true);
            }, "an 81st, with a FALSE one", y -> y.several(0, 7, 0, 1));
        });
    }

    private static void signed() {
        test(36, "Of a SIGNATURE: 0 r, 1 s, 2 the KEY, 3 the THING, 4 the DAY.", () -> {
            LifeKeys x = rich();
            int[] due = {64, (3 + cOf(64, 100) * 5) % 1019, 0, 0, Twins.NOW};
            for (int what = 0; what < 5; what++) {
                is("signed(0, " + what + ")", x.signed(0, what), due[what]);
            }
            is("the last", x.signed(2, 0), 256);
            is("another KEY", x.signed(1, 2), 3);
            is("another THING", x.signed(1, 3), 1);
            LifeKeys y = signer(5, 1);
            y.sign(0, 0, 0, 1);
            y.days(5);
            is("DAY 0, not NOW", y.signed(0, 4), 0);
        });
        test(36, "NONE for others.", () -> {
            for (int what : noSuch(5)) {
                none("signed(0, " + what + ")", x -> x.signed(0, what));
            }
            for (int signature : noSuch(Twins.SIGNATURES)) {
                for (int what = 0; what < 5; what++) {
                    is("signed(" + signature + ", " + what + ")", rich().signed(signature, what), NONE);
                }
            }
            none("signed(3, 0)", x -> x.signed(3, 0));
            none(BoundsOfSignatures::fullSignatures, "signed(80, 0)", x -> x.signed(80, 0));
        });
    }

    private static void taken() {
        test(37, "Whether r and s are TAKEN (1, 0).", () -> {
            LifeKeys x = rich();
            int s = x.signed(0, 1);
            is("taken", x.taken(0, 0, 64, s), 1);
            is("another s", x.taken(0, 0, 64, s + 1), 0);
            is("another r", x.taken(0, 0, 65, s), 0);
            is("another THING", x.taken(1, 0, 64, s), 0);
            is("another KEY", x.taken(0, 1, 64, s), 0);
        });
        test(37, "NONE: no such THING,", () -> {
            for (int thing : noSuch(Twins.THINGS)) {
                none("taken(" + thing + ", 0, 64, 5)", x -> x.taken(thing, 0, 64, 5));
            }
            is("the last", rich().taken(Twins.THINGS - 1, 0, 64, 5), 0);
        });
        test(37, "KEY,", () -> {
            for (int key : noSuch(Twins.KEYS)) {
                none("taken(0, " + key + ", 64, 5)", x -> x.taken(0, key, 64, 5));
            }
            is("the last", rich().taken(0, Twins.KEYS - 1, 64, 5), 0);
        });
        test(37, "r (1 .. 2,038),", () -> {
            for (int r : new int[] {0, -1, 2039, 2040, MIN, MAX}) {
                none("taken(0, 0, " + r + ", 5)", x -> x.taken(0, 0, r, 5));
            }
            is("2,038", rich().taken(0, 0, 2038, 5), 0);
            // r is 1: c is 1 and 7 times 100, which is 701; s is 701 times 5, which is 448.
            is("1", rich().taken(0, 0, 1, 701 * 5 % 1019), 1);
            is("1", rich().taken(0, 0, 1, 5), 0);
        });
        test(37, "s (0 .. 1,018).", () -> {
            for (int s : new int[] {-1, 1019, 1020, MIN, MAX}) {
                none("taken(0, 0, 64, " + s + ")", x -> x.taken(0, 0, 64, s));
            }
            LifeKeys x = rich();
            is("s and 1,019", x.taken(0, 0, 64, x.signed(0, 1) + 1019), NONE);
            int zero = startFor(0);
            int last = startFor(1018);
            is("0", rich().taken(0, 0, power(4, zero), 0), 1);
            is("1,018", rich().taken(0, 0, power(4, last), 1018), 1);
        });
    }

    /** The start t with which KEY 0 signs THING 0 of the rich cupboard so that s is this. */
    private static int startFor(int s) {
        int t = 1;
        while (t < 1018 && (t + cOf(power(4, t), 100) * 5) % 1019 != s) {
            t++;
        }
        return t;
    }

    private static void burn() {
        test(38, "A KEY is BURNT from a DAY.", () -> {
            LifeKeys x = rich();
            is("from DAY 0", x.burn(1, 0), true);
            is("from DAY 2,000", x.burn(2, 2000), true);
            is("the same once more", x.burn(2, 2000), true);
            is("a later DAY", x.burn(1, 5), true);
            is("told", x.told(1, 2), 0);
            is("told", x.told(2, 2), 2000);
        });
        test(38, "False: no such ones;", () -> {
            for (int key : noSuch(Twins.KEYS)) {
                no("burn(" + key + ", 0)", x -> x.burn(key, 0));
            }
            for (int day : new int[] {-1, 2001, 2002, MIN, MAX}) {
                no("burn(0, " + day + ")", x -> x.burn(0, day));
            }
        });
        test(38, "there were 60.", () -> {
            LifeKeys x = new LifeKeys();
            x.key(5, false);
            for (int i = 0; i < 59; i++) {
                x.burn(0, 100);
            }
            is("the 60th", x.burn(0, 99), true);
            is("a 61st", x.burn(0, 98), false);
            is("told", x.told(0, 2), 99);
            no(BoundsOfSignatures::fullBurns, "a 61st", y -> y.burn(1, 0));
        });
    }

    private static void old() {
        test(39, "A KEY is OLD.", () -> {
            LifeKeys x = built(BoundsOfKeys::fullKeys);
            is("the first", x.old(0), true);
            is("the last of 40", x.old(39), true);
            is("since", x.told(39, 3), Twins.NOW);
            is("BURNT ones, too", x.old(3), true);
        });
        test(39, "False: no such one,", () -> {
            for (int key : noSuch(Twins.KEYS)) {
                no("old(" + key + ")", x -> x.old(key));
            }
            no(BoundsOfKeys::fullKeys, "old(40)", x -> x.old(40));
        });
        test(39, "it is.", () -> {
            no("OLD NOW", x -> x.old(Twins.OLD_KEY));
            Build later = x -> {
                Twins.rich(x);
                x.days(1);
            };
            no(later, "OLD since yesterday", x -> x.old(Twins.OLD_KEY));
            LifeKeys x = new LifeKeys();
            x.key(5, false);
            is("on DAY 0", x.old(0), true);
            is("since DAY 0", x.old(0), false);
        });
    }

    private static void stands() {
        test(40, "What a SIGNATURE is as known in q (1 .. 3).", () -> {
            LifeKeys x = rich();
            is("STANDS", x.stands(0, Twins.NOW), 1);
            x.burn(0, 7);
            is("FALLEN", x.stands(0, Twins.NOW), 3);
            x.days(1);
            x.burn(3, 0);
            is("DOUBTFUL", x.stands(1, Twins.NOW + 1), 2);
            is("STOOD", x.stands(1, Twins.NOW), 1);
            LifeKeys y = signer(5, 1);
            y.sign(0, 0, 0, 1);
            is("on DAY 0 in q 0", y.stands(0, 0), 1);
        });
        test(40, "NONE: no such ones,", () -> {
            for (int signature : noSuch(Twins.SIGNATURES)) {
                none("stands(" + signature + ", 7)", x -> x.stands(signature, Twins.NOW));
            }
            for (int q : new int[] {-1, Twins.NOW + 1, 2000, MIN, MAX}) {
                none("stands(0, " + q + ")", x -> x.stands(0, q));
            }
            none(BoundsOfSignatures::fullSignatures, "stands(80, 7)", x -> x.stands(80, Twins.NOW));
        });
        test(40, "made behind q.", () -> {
            none("the DAY before", x -> x.stands(0, Twins.NOW - 1));
            none("DAY 0", x -> x.stands(0, 0));
            is("that DAY", rich().stands(0, Twins.NOW), 1);
        });
    }

    private static void lend() {
        test(41, "A KEY is LENT to a DAY (NOW .. 2,000): its number.", () -> {
            LifeKeys x = rich();
            is("to NOW", x.lend(0, 0, Twins.NOW, 1, NONE), Twins.LENT);
            is("to 2,000", x.lend(0, 0, 2000, 1, NONE), Twins.LENT + 1);
            for (int day : new int[] {-1, 0, Twins.NOW - 1, 2001, MIN, MAX}) {
                none("lend(0, 0, " + day + ", 1, NONE)", y -> y.lend(0, 0, day, 1, NONE));
            }
            LifeKeys last = built(BoundsOfKeys::lastDay);
            is("to 2,000 on that DAY", last.lend(0, 0, 2000, 1, NONE), Twins.LENT);
            is("to 1,999 on that DAY", last.lend(0, 0, 1999, 1, NONE), NONE);
        });
        test(41, "NONE: no such ones (THING NONE: any),", () -> {
            for (int key : noSuch(Twins.KEYS)) {
                none("lend(" + key + ", 0, 9, 1, 0)", x -> x.lend(key, 0, 9, 1, 0));
            }
            for (int holder : noSuch(Twins.HOLDERS)) {
                none("lend(0, " + holder + ", 9, 1, 0)", x -> x.lend(0, holder, 9, 1, 0));
            }
            for (int thing : noSuch(Twins.THINGS)) {
                if (thing != NONE) {
                    none("lend(0, 0, 9, 1, " + thing + ")", x -> x.lend(0, 0, 9, 1, thing));
                }
            }
            LifeKeys x = rich();
            is("THING NONE", x.lend(0, 0, 9, 1, NONE), Twins.LENT);
            is("the last ones", x.lend(4, 4, 9, 1, 2), Twins.LENT + 1);
            is("the first ones", x.lend(0, 0, 9, 1, 0), Twins.LENT + 2);
            is("a BURNT one", x.burn(1, 0) ? x.lend(1, 0, 9, 1, 0) : NONE, Twins.LENT + 3);
        });
        test(41, "uses,", () -> {
            for (int uses : new int[] {0, -1, 101, 102, MIN, MAX}) {
                none("lend(0, 0, 9, " + uses + ", 0)", x -> x.lend(0, 0, 9, uses, 0));
            }
            is("1", rich().lend(0, 0, 9, 1, 0), Twins.LENT);
            is("100", rich().lend(0, 0, 9, 100, 0), Twins.LENT);
        });
        test(41, "there are 40.", () -> {
            LifeKeys x = with(1);
            x.key(5, false);
            for (int i = 0; i < 39; i++) {
                x.lend(0, 0, 0, 1, NONE);
            }
            is("the 40th", x.lend(0, 0, 0, 1, NONE), 39);
            is("a 41st", x.lend(0, 0, 0, 1, NONE), NONE);
            none(BoundsOfSignatures::fullLent, "a 41st", y -> y.lend(0, 0, 9, 1, NONE));
        });
    }

    private static void use() {
        test(42, "USING what is LENT: the SIGNATURE.", () -> {
            LifeKeys x = rich();
            is("use", x.use(0, 2, 1018), Twins.SIGNATURES);
            is("r", x.signed(Twins.SIGNATURES, 0), 510);
            is("KEY", x.signed(Twins.SIGNATURES, 2), 0);
            is("THING", x.signed(Twins.SIGNATURES, 3), 2);
            is("DAY", x.signed(Twins.SIGNATURES, 4), Twins.NOW);
        });
        test(42, "NONE: refused.", () -> {
            for (int lent : noSuch(Twins.LENT)) {
                none("use(" + lent + ", 0, 1)", x -> x.use(lent, 0, 1));
            }
            for (int thing : noSuch(Twins.THINGS)) {
                none("use(0, " + thing + ", 1)", x -> x.use(0, thing, 1));
            }
            for (int t : new int[] {0, -1, 1019, 1020, MIN, MAX}) {
                none("use(0, 0, " + t + ")", x -> x.use(0, 0, t));
            }
            none(x -> {
                Twins.rich(x);
                x.burn(0, Twins.NOW);
            }, "BURNT", x -> x.use(0, 0, 1));
            none(x -> {
                Twins.rich(x);
                x.old(0);
            }, "OLD", x -> x.use(0, 0, 1));
            none(BoundsOfSignatures::fullSignatures, "there are 80 SIGNATURES", x -> x.use(0, 0, 1));
            none(BoundsOfSignatures::fullLent, "use(40, 0, 1)", x -> x.use(40, 0, 1));
            is("the last of 40", built(BoundsOfSignatures::fullLent).use(38, 0, 1), Twins.SIGNATURES);
        });
    }

    private static void back() {
        test(43, "It is BACK.", () -> {
            LifeKeys x = rich();
            is("the first", x.back(0), true);
            is("one with uses left", x.back(1), true);
            is("none is out", x.count(9), 0);
            is("not used any more", x.use(0, 0, 1), NONE);
            LifeKeys y = built(BoundsOfSignatures::fullLent);
            is("the last of 40", y.back(39), true);
            y.days(100);
            is("one beyond its DAY", y.back(38), true);
        });
        test(43, "False: no such one,", () -> {
            for (int lent : noSuch(Twins.LENT)) {
                no("back(" + lent + ")", x -> x.back(lent));
            }
            no(BoundsOfSignatures::fullLent, "back(40)", x -> x.back(40));
        });
        test(43, "it is.", () -> no("back(2)", x -> x.back(Twins.LENT_BACK)));
    }
}
