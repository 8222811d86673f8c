/** FALLS of HOLDERS, and what is counted: promises 44 to 51. */
final class BoundsOfFalls extends Bounds {
    static void all() {
        termsOfFalls();
        termsOfLeast();
        termsOfBetter();
        termsOfOrder();
        fall();
        fallen();
        leastNumbers();
        better();
        order();
        count();
        countFurther();
    }

    static void fullFalls(LifeKeys x) {
        Twins.rich(x);
        for (int i = Twins.FALLS; i < 20; i++) {
            x.fall(i);
        }
    }

    private static LifeKeys parted(int holders, int set, int need) {
        LifeKeys x = with(holders);
        x.key(5, false);
        x.part(0, set, need, 1);
        return x;
    }

    private static void termsOfFalls() {
        terms("FALLS (20 at most): of HOLDERS (bits), told.", () -> {
            LifeKeys x = with(12);
            is("none", x.fall(0), NONE);
            is("the first", x.fall(1), 0);
            is("all", x.fall(4095), 1);
            is("one that is not there", x.fall(4096), NONE);
            for (int i = 2; i < 20; i++) {
                is("fall", x.fall(i), i);
            }
            is("a 21st", x.fall(1), NONE);
        });
        terms("LOST by a FALL is a KEY, if all other HOLDERS do not GET it NOW;", () -> {
            LifeKeys x = parted(4, 0b0111, 2);
            x.key(6, false);
            x.fall(0b0001);
            x.fall(0b0011);
            x.fall(0b1111);
            is("two are left: not lost; what nobody has: lost", x.fallen(0, 0), 0b10);
            is("one is left", x.fallen(1, 0), 0b11);
            is("none is left", x.fallen(2, 0), 0b11);
            x.days(1);
            x.give(3, 0);
            is("another HAS it NOW", x.fallen(1, 0), 0b10);
            is("none is left", x.fallen(2, 0), 0b11);
            x.holder();
            x.give(4, 1);
            is("one that was told behind the FALL", x.fallen(2, 0), 0b01);
            x.take(4, 1);
            is("not NOW", x.fallen(2, 0), 0b11);
        });
        terms("BARE, if those of the FALL GET it NOW.", () -> {
            LifeKeys x = parted(4, 0b0111, 2);
            x.key(6, false);
            x.fall(0b1001);
            x.fall(0b0011);
            is("one of two", x.fallen(0, 1), 0);
            is("two of two", x.fallen(1, 1), 0b01);
            x.days(1);
            x.give(3, 0);
            is("one HAS it NOW", x.fallen(0, 1), 0b01);
            x.days(1);
            x.take(3, 0);
            is("not NOW", x.fallen(0, 1), 0);
            x.again(0, 3);
            is("by the younger PARTING", x.fallen(1, 1), 0b01);
        });
    }

    private static void leasts(LifeKeys x, int key, int what, int least, int ways, int first) {
        is("least(" + key + ", " + what + ")", x.least(key, what), least);
        is("ways(" + key + ", " + what + ")", x.ways(key, what), ways);
        is("first(" + key + ", " + what + ")", x.first(key, what), first);
    }

    private static long choices(int of, int many) {
        long found = 1;
        for (int i = 1; i <= many; i++) {
            found = found * (of - many + i) / i;
        }
        return found;
    }

    private static void termsOfLeast() {
        terms("LEAST of a KEY: the fewest HOLDERS whose FALL would lose it (0), or lay it bare (1), of all HOLDERS;", () -> {
            for (int need = 1; need <= 12; need++) {
                LifeKeys x = parted(12, 4095, need);
                is("lose, NEED " + need, x.least(0, 0), 13 - need);
                is("lay bare, NEED " + need, x.least(0, 1), need);
            }
            LifeKeys alone = parted(1, 1, 1);
            leasts(alone, 0, 0, 1, 1, 1);
            leasts(alone, 0, 1, 1, 1, 1);
            LifeKeys nobody = with(3);
            nobody.key(5, false);
            // A FALL has one HOLDER at least; without this KEY they all are already.
            leasts(nobody, 0, 0, 1, 3, 1);
        });
        terms("LEAST of a KEY: the fewest HOLDERS whose FALL would lose it (0), or lay it bare (1), of all HOLDERS;", () -> {
            LifeKeys x = with(4);
            x.key(5, true);
            make(x, 0, "a");
            x.key(6, false);
            x.key(7, false);
            x.wrap(2, 1);
            x.part(0, 0b0111, 2, 1);
            leasts(x, 2, 1, 2, 3, 0b0011);
            leasts(x, 2, 0, 2, 3, 0b0011);
            x.give(3, 2);
            leasts(x, 2, 1, 1, 1, 0b1000);
            leasts(x, 2, 0, 3, 3, 0b1011);
            leasts(x, 3, 1, NONE, NONE, NONE);
            leasts(x, 3, 0, 1, 4, 1);
            x.cut(0);
            leasts(x, 2, 1, 1, 1, 0b1000);
            leasts(x, 2, 0, 1, 1, 0b1000);
            leasts(x, 1, 1, 2, 3, 0b0011);
            x.days(1);
            x.take(3, 2);
            leasts(x, 2, 1, NONE, NONE, NONE);
        });
        terms("LEAST of a KEY: the fewest HOLDERS whose FALL would lose it (0), or lay it bare (1), of all HOLDERS;", () -> {
            // Each of 40 KEYS, the first and the last among them, is GOT by way of another alone.
            for (int key = 0; key < 40; key++) {
                LifeKeys x = with(3);
                for (int i = 0; i < 40; i++) {
                    x.key(1, false);
                }
                int outer = (key + 1) % 40;
                x.wrap(key, outer);
                x.give(2, outer);
                leasts(x, key, 1, 1, 1, 0b100);
                leasts(x, key, 0, 1, 1, 0b100);
                x.part(outer, 0b011, 2, 1);
                leasts(x, key, 1, 1, 1, 0b100);
                leasts(x, key, 0, 2, 2, 0b101);
            }
        });
        terms("WAYS: how many such sets;", () -> {
            for (int need = 1; need <= 12; need++) {
                LifeKeys x = parted(12, 4095, need);
                is("lose, NEED " + need, x.ways(0, 0), choices(12, 13 - need));
                is("lay bare, NEED " + need, x.ways(0, 1), choices(12, need));
            }
            LifeKeys all = with(12);
            all.key(5, false);
            for (int i = 0; i < 12; i++) {
                all.give(i, 0);
            }
            leasts(all, 0, 0, 12, 1, 4095);
            leasts(all, 0, 1, 1, 12, 1);
        });
        terms("FIRST: the one that has the lower HOLDER where two first differ. There may be none.", () -> {
            LifeKeys x = with(12);
            x.key(5, false);
            x.part(0, 1 | 1 << 11, 2, 1);
            x.part(0, 0b110, 2, 1);
            leasts(x, 0, 1, 2, 2, 1 | 1 << 11);
            leasts(x, 0, 0, 2, 4, 0b11);
            LifeKeys y = with(12);
            y.key(5, false);
            y.part(0, 1 << 2 | 1 << 5 | 1 << 6, 3, 1);
            y.part(0, 1 << 2 | 1 << 4 | 1 << 11, 3, 1);
            y.part(0, 1 << 3 | 1 << 4 | 1 << 5, 3, 1);
            leasts(y, 0, 1, 3, 3, 1 << 2 | 1 << 4 | 1 << 11);
            for (int need = 1; need <= 12; need++) {
                LifeKeys z = parted(12, 4095, need);
                is("lose, NEED " + need, z.first(0, 0), (1 << 13 - need) - 1);
                is("lay bare, NEED " + need, z.first(0, 1), (1 << need) - 1);
            }
            LifeKeys nobody = with(3);
            nobody.key(5, false);
            leasts(nobody, 0, 1, NONE, NONE, NONE);
            LifeKeys empty = new LifeKeys();
            empty.key(5, false);
            leasts(empty, 0, 0, NONE, NONE, NONE);
            leasts(empty, 0, 1, NONE, NONE, NONE);
        });
    }

    private static void termsOfBetter() {
        terms("BETTER of a PARTING IN FORCE: the NEED (1 .. as many as its HOLDERS) with which, all else as it is,"
            + " no FALL told would lose its KEY, nor lay it bare:", () -> {
                // 3 of 12 fall: they lay it bare with 1 to 3, and lose it with 10 to 12.
                for (int need = 1; need <= 12; need++) {
                    LifeKeys x = parted(12, 4095, need);
                    is("no FALL told, NEED " + need, x.better(0), need);
                    x.fall(0b111);
                    is("NEED " + need, x.better(0), Math.min(9, Math.max(4, need)));
                    is("all else stays", x.left(0, 1), need - 1);
                }
                LifeKeys least = parted(12, 4094, 2);
                least.fall(1);
                least.fall(0b111111111101);
                is("1 would be, but for being bare", least.better(0), NONE);
                LifeKeys one = parted(3, 0b010, 1);
                one.fall(0b101);
                is("1 of 1", one.better(0), 1);
                LifeKeys most = parted(12, 4095, 1);
                most.give(11, 0);
                most.fall(0b11111111111 ^ 1);
                is("11 is enough", most.better(0), 11);
                most.fall(0b11111111111);
                is("all twelve", most.better(0), 12);
                LifeKeys beyond = parted(3, 0b011, 1);
                beyond.give(2, 0);
                beyond.fall(0b011);
                is("with 3 it would, but 3 are more than its HOLDERS", beyond.better(0), NONE);
            });
        terms("BETTER of a PARTING IN FORCE: the NEED (1 .. as many as its HOLDERS) with which, all else as it is,"
            + " no FALL told would lose its KEY, nor lay it bare:", () -> {
                LifeKeys x = parted(12, 4095, 1);
                for (int i = 0; i < 19; i++) {
                    x.fall(1);
                }
                is("19 FALLS of one", x.better(0), 2);
                x.fall(0b11111);
                is("the 20th, of five", x.better(0), 6);
                is("a 21st is refused", x.fall(0b111111), NONE);
                is("and changes nothing", x.better(0), 6);
            });
        terms("that which is nearest to its own;", () -> {
            LifeKeys own = parted(6, 0b111111, 3);
            own.fall(0b000001);
            is("its own", own.better(0), 3);
            LifeKeys above = parted(6, 0b111111, 1);
            above.fall(0b000011);
            is("3 or 4: above", above.better(0), 3);
            LifeKeys below = parted(6, 0b111111, 6);
            below.fall(0b000011);
            is("3 or 4: below", below.better(0), 4);
        });
        terms("of two the lower. There may be none.", () -> {
            // More NEED never lays more bare, and less never loses more; so what is better lies without a
            // gap, and two can be as near only if its own is none of them: then one of them is enough.
            LifeKeys x = parted(6, 0b111111, 3);
            x.fall(0b000111);
            is("bare with up to 3, lost from 4 on", x.better(0), NONE);
            LifeKeys other = parted(3, 0b011, 2);
            other.part(0, 0b100, 1, 1);
            other.fall(0b100);
            is("bare by another PARTING", other.better(0), NONE);
            LifeKeys all = parted(3, 0b111, 2);
            all.fall(0b111);
            is("all fall", all.better(0), NONE);
        });
    }

    private static void ordered(LifeKeys x, int... due) {
        for (int i = 0; i < due.length; i++) {
            is("order " + i, x.order(0, i), due[i]);
        }
        is("no more", x.order(0, due.length), NONE);
    }

    /** As many KEYS as told, all HAD by HOLDER 0, who falls; every second one is a ROOT. */
    private static LifeKeys bare(int keys) {
        LifeKeys x = with(2);
        x.fall(1);
        for (int i = 0; i < keys; i++) {
            x.key(1 + i, i % 2 == 1);
            x.give(0, i);
        }
        return x;
    }

    private static void termsOfOrder() {
        terms("ORDER after a FALL: of KEYS that are BARE by it, one after the other,", () -> {
            ordered(bare(0));
            ordered(bare(1), 0);
            ordered(bare(3), 0, 1, 2);
            LifeKeys x = bare(4);
            x.take(0, 1);
            x.take(0, 3);
            ordered(x, 0, 2);
            LifeKeys all = bare(40);
            for (int i = 0; i < 40; i++) {
                is("order " + i, all.order(0, i), i);
            }
            is("a 41st", all.order(0, 40), NONE);
        });
        terms("always the lowest not told yet whose ROOT (of a MADE one),", () -> {
            LifeKeys x = bare(2);
            make(x, 1, "a");
            x.key(7, false);
            x.give(0, 3);
            x.wrap(1, 3);
            ordered(x, 0, 3, 1, 2);
            LifeKeys y = bare(2);
            make(y, 1, "a");
            y.give(0, 2);
            y.take(0, 1);
            ordered(y, 0, 2);
        });
        terms("and all KEYS in which it is WRAPPED NOW,", () -> {
            LifeKeys x = bare(4);
            x.wrap(0, 3);
            x.wrap(0, 2);
            ordered(x, 1, 2, 3, 0);
            x.cut(0);
            ordered(x, 1, 2, 0, 3);
            x.cut(1);
            ordered(x, 0, 1, 2, 3);
            LifeKeys chain = with(1);
            chain.fall(1);
            for (int i = 0; i < 40; i++) {
                chain.key(1, false);
            }
            for (int i = 0; i < 39; i++) {
                chain.wrap(i, i + 1);
            }
            chain.give(0, 39);
            for (int i = 0; i < 40; i++) {
                is("chain " + i, chain.order(0, i), 39 - i);
            }
            is("chain 40", chain.order(0, 40), NONE);
        });
        terms("are told already or not BARE.", () -> {
            LifeKeys x = bare(3);
            x.take(0, 2);
            x.wrap(0, 2);
            ordered(x, 0, 1);
            x.give(0, 2);
            ordered(x, 1, 2, 0);
        });
        terms("What is BARE and can never be told so is not told.", () -> {
            LifeKeys x = bare(5);
            x.wrap(1, 2);
            x.wrap(2, 1);
            x.wrap(3, 2);
            ordered(x, 0, 4);
            LifeKeys y = bare(2);
            make(y, 1, "a");
            y.wrap(1, 2);
            ordered(y, 0);
            LifeKeys all = bare(2);
            all.wrap(0, 1);
            all.wrap(1, 0);
            ordered(all);
        });
    }

    private static void fall() {
        test(44, "A FALL: its number.", () -> {
            LifeKeys x = rich();
            is("its number", x.fall(31), Twins.FALLS);
            is("the same once more", x.fall(31), Twins.FALLS + 1);
            is("count", x.count(10), Twins.FALLS + 2);
        });
        test(44, "NONE: no such HOLDERS (one at least),", () -> {
            for (int set : noSet(Twins.HOLDERS)) {
                none("fall(" + set + ")", x -> x.fall(set));
            }
            for (int set : noSet(12)) {
                none(BoundsOfKeys::fullHolders, "fall(" + set + ") of twelve", x -> x.fall(set));
            }
            is("one", rich().fall(1), Twins.FALLS);
            is("all", rich().fall(31), Twins.FALLS);
            is("the last", rich().fall(16), Twins.FALLS);
        });
        test(44, "there are 20.", () -> {
            LifeKeys x = with(1);
            for (int i = 0; i < 19; i++) {
                x.fall(1);
            }
            is("the 20th", x.fall(1), 19);
            is("a 21st", x.fall(1), NONE);
            none(BoundsOfFalls::fullFalls, "a 21st", y -> y.fall(1));
        });
    }

    private static void fallen() {
        test(45, "KEYS LOST (0),", () -> {
            LifeKeys x = rich();
            // HOLDER 0 alone has KEY 0; 3 is parted among 0, 1, 2 (two of them); 1 has the ROOT of 2.
            is("by the fall of 0", x.fallen(0, 0), 0b00001);
            is("by the fall of 1 and 2", x.fallen(1, 0), 0b10110);
            LifeKeys y = with(1);
            y.fall(1);
            is("no KEYS", y.fallen(0, 0), 0);
            for (int i = 0; i < 40; i++) {
                y.key(1, false);
            }
            is("40 bits", y.fallen(0, 0), (1L << 40) - 1);
        });
        test(45, "BARE (1) by a FALL, as bits.", () -> {
            LifeKeys x = rich();
            is("by the fall of 0", x.fallen(0, 1), 0b01001);
            is("by the fall of 1 and 2", x.fallen(1, 1), 0b01110);
            LifeKeys y = bare(40);
            is("40 bits", y.fallen(0, 1), (1L << 40) - 1);
            is("40 bits", y.fallen(0, 0), (1L << 40) - 1);
        });
        test(45, "-1: no such ones.", () -> {
            for (int fall : noSuch(Twins.FALLS)) {
                none("fallen(" + fall + ", 0)", x -> x.fallen(fall, 0));
                none("fallen(" + fall + ", 1)", x -> x.fallen(fall, 1));
            }
            for (int what : noSuch(2)) {
                none("fallen(0, " + what + ")", x -> x.fallen(0, what));
            }
            none(BoundsOfFalls::fullFalls, "fallen(20, 0)", x -> x.fallen(20, 0));
        });
    }

    private static void nobodys(LifeKeys x) {
        Twins.rich(x);
        x.key(5, false);
    }

    private static void leastNumbers() {
        test(46, "LEAST.", () -> {
            is("lose", rich().least(3, 0), 2);
            is("lay bare", rich().least(3, 1), 1);
            is("the last KEY", rich().least(Twins.KEYS - 1, 1), 3);
        });
        test(46, "NONE: none,", () -> none(BoundsOfFalls::nobodys, "least(5, 1)", x -> x.least(5, 1)));
        test(46, "no such KEY,", () -> {
            for (int key : noSuch(Twins.KEYS)) {
                none("least(" + key + ", 0)", x -> x.least(key, 0));
                none("least(" + key + ", 1)", x -> x.least(key, 1));
            }
        });
        test(46, "what.", () -> {
            for (int what : noSuch(2)) {
                none("least(0, " + what + ")", x -> x.least(0, what));
            }
        });
        test(47, "WAYS.", () -> {
            is("lose", rich().ways(3, 0), 2);
            is("lay bare", rich().ways(3, 1), 1);
            is("the last KEY", rich().ways(Twins.KEYS - 1, 1), 4);
        });
        test(47, "NONE likewise.", () -> {
            none(BoundsOfFalls::nobodys, "ways(5, 1)", x -> x.ways(5, 1));
            for (int key : noSuch(Twins.KEYS)) {
                none("ways(" + key + ", 0)", x -> x.ways(key, 0));
                none("ways(" + key + ", 1)", x -> x.ways(key, 1));
            }
            for (int what : noSuch(2)) {
                none("ways(0, " + what + ")", x -> x.ways(0, what));
            }
        });
        test(48, "FIRST, as bits.", () -> {
            is("lose", rich().first(3, 0), 0b00011);
            is("lay bare", rich().first(3, 1), 0b00001);
            is("the last KEY", rich().first(Twins.KEYS - 1, 1), 0b01110);
        });
        test(48, "NONE likewise.", () -> {
            none(BoundsOfFalls::nobodys, "first(5, 1)", x -> x.first(5, 1));
            for (int key : noSuch(Twins.KEYS)) {
                none("first(" + key + ", 0)", x -> x.first(key, 0));
                none("first(" + key + ", 1)", x -> x.first(key, 1));
            }
            for (int what : noSuch(2)) {
                none("first(0, " + what + ")", x -> x.first(0, what));
            }
        });
    }

    private static void better() {
        test(49, "BETTER.", () -> {
            LifeKeys x = parted(5, 0b11111, 2);
            is("without a FALL", x.better(0), 2);
            x.fall(0b00011);
            is("2 fall of 5", x.better(0), 3);
            is("its NEED stays", x.left(0, 1), 1);
        });
        test(49, "NONE: none,", () -> none("better(0)", x -> x.better(0)));
        test(49, "no such PARTING,", () -> {
            for (int parting : noSuch(Twins.PARTINGS)) {
                none("better(" + parting + ")", x -> x.better(parting));
            }
            is("the last", rich().better(Twins.PARTINGS - 1), NONE);
            none(BoundsOfPartings::fullPartings, "better(40)", x -> x.better(40));
        });
        test(49, "OUT.", () -> {
            LifeKeys x = parted(2, 0b11, 1);
            x.again(0, 1);
            is("OUT NOW", x.better(0), NONE);
            is("the younger", x.better(1), 1);
            x.days(1);
            is("OUT since yesterday", x.better(0), NONE);
            none("OUT since an elder DAY", y -> y.better(Twins.PARTING_OUT));
        });
    }

    private static void order() {
        test(50, "ORDER: the i-th KEY.", () -> {
            LifeKeys x = rich();
            // By the fall of 1 and 2: the ROOT 1, 2 that is MADE of it, and 3, whose outer 0 is not BARE.
            is("0", x.order(1, 0), 1);
            is("1", x.order(1, 1), 2);
            is("2", x.order(1, 2), 3);
        });
        test(50, "NONE without,", () -> {
            for (int i : noSuch(3)) {
                none("order(1, " + i + ")", x -> x.order(1, i));
            }
            none("order(1, 40)", x -> x.order(1, 40));
            is("nothing is BARE", with(1).fall(1), 0);
            LifeKeys x = with(1);
            x.key(5, false);
            x.fall(1);
            is("nothing is BARE", x.order(0, 0), NONE);
        });
        test(50, "no such FALL.", () -> {
            for (int fall : noSuch(Twins.FALLS)) {
                none("order(" + fall + ", 0)", x -> x.order(fall, 0));
            }
            none(BoundsOfFalls::fullFalls, "order(20, 0)", x -> x.order(20, 0));
        });
    }

    /** What is counted before and after, by calls each of which changes it by one or leaves it. */
    private static void counted(int what, Build before, int one, Build after, int other) {
        LifeKeys x = rich();
        before.on(x);
        is("count(" + what + ")", x.count(what), one);
        after.on(x);
        is("count(" + what + ") then", x.count(what), other);
    }

    private static final Build NOTHING = x -> { };

    private static void count() {
        test(51, "0 NOW,", () -> {
            counted(0, NOTHING, Twins.NOW, x -> x.days(0), Twins.NOW);
            counted(0, x -> x.days(1000), 1007, x -> x.days(993), 2000);
        });
        test(51, "1 HOLDERS,", () -> {
            counted(1, NOTHING, 5, LifeKeys::holder, 6);
            is("twelve", built(BoundsOfKeys::fullHolders).count(1), 12);
        });
        test(51, "2 KEYS,", () -> {
            counted(2, x -> x.key(1, true), 6, x -> x.make(1), 7);
            is("40", built(BoundsOfKeys::fullKeys).count(2), 40);
        });
        test(51, "3 PARTINGS,", () -> {
            counted(3, x -> x.part(0, 1, 1, 1), 4, x -> x.again(0, 1), 5);
            is("40, OUT ones too", built(BoundsOfPartings::fullPartings).count(3), 40);
        });
        test(51, "4 WRAPS that are not cut away,", () -> {
            counted(4, NOTHING, 1, x -> x.wrap(0, 1), 2);
            counted(4, x -> x.cut(0), 0, x -> x.cut(0), 0);
            is("39, one of 40 is cut", built(BoundsOfKeys::fullWraps).count(4), 39);
        });
        test(51, "5 RULES,", () -> {
            counted(5, LifeKeys::rule, 4, LifeKeys::rule, 4);
            is("20", built(BoundsOfRules::fullRules).count(5), 20);
        });
        test(51, "6 THINGS,", () -> {
            counted(6, x -> x.seal(1, 0, false), 4, x -> x.seal(1, 0, true), 5);
            is("40", built(BoundsOfRules::fullThings).count(6), 40);
        });
    }

    private static void countFurther() {
        test(51, "7 SAYINGS,", () -> {
            counted(7, x -> x.say(0, 0, true), 5, x -> x.mourn(0, 1, false), 6);
            is("200", built(BoundsOfRules::fullSayings).count(7), 200);
        });
        test(51, "8 SIGNATURES,", () -> {
            counted(8, x -> x.sign(0, 0, 0, 1), 4, x -> x.several(0, 7, 0, 1), 5);
            counted(8, x -> x.use(0, 0, 1), 4, x -> x.use(2, 0, 1), 4);
            is("80", built(BoundsOfSignatures::fullSignatures).count(8), 80);
        });
        test(51, "9 those LENT that are not BACK,", () -> {
            counted(9, x -> x.lend(0, 0, 9, 1, NONE), 3, x -> x.back(0), 2);
            counted(9, x -> x.days(500), 2, x -> x.use(1, 1, 1), 2);
            is("39, one of 40 is BACK", built(BoundsOfSignatures::fullLent).count(9), 39);
        });
        test(51, "10 FALLS,", () -> {
            counted(10, NOTHING, 2, x -> x.fall(1), 3);
            is("20", built(BoundsOfFalls::fullFalls).count(10), 20);
        });
        test(51, "11 bytes of the TAPE,", () -> {
            counted(11, x -> x.feed(1, 0, 0, 0, 0), 6, x -> x.end(2), 2);
            counted(11, LifeKeys::rule, 0, x -> x.feed(-1, -1, -1, -1, -1), 20);
        });
        test(51, "12 numbers on the BENCH,", () -> {
            counted(12, x -> x.lay(1, 0), 3, x -> x.lay(1, 0), 3);
            counted(12, x -> x.lay(4, 1018), 3, LifeKeys::join, 0);
        });
        test(51, "13 THINGS OPENED.", () -> {
            counted(13, x -> x.unseal(0), 1, x -> x.unseal(1), 2);
            counted(13, x -> x.unseal(2), 1, x -> x.say(1, 2, false), 1);
        });
        test(51, "NONE for others.", () -> {
            for (int what : noSuch(14)) {
                none("count(" + what + ")", x -> x.count(what));
            }
        });
    }
}
