/** RULES, SAYINGS and THINGS: promises 23 to 32. */
final class BoundsOfRules extends Bounds {
    static void all() {
        termsOfTexts();
        termsOfNumbers();
        termsOfFaults();
        termsOfHolding();
        termsOfDeath();
        termsOfThings();
        fault();
        rule();
        death();
        seal();
        say();
        mourn();
        ask();
        may();
        dead();
        unseal();
    }

    static void fullRules(LifeKeys x) {
        Twins.rich(x);
        for (int i = Twins.RULES; i < 20; i++) {
            rule(x, "w" + i);
        }
        Texts.tape(x, "h1&n2");
    }

    static void fullDeaths(LifeKeys x) {
        Twins.rich(x);
        for (int i = 1; i < 40; i++) {
            x.death(i % 5, i % 3);
        }
    }

    static void fullThings(LifeKeys x) {
        Twins.rich(x);
        for (int i = Twins.THINGS; i < 40; i++) {
            x.seal(i, i % 3, i % 2 == 0);
        }
    }

    static void fullSayings(LifeKeys x) {
        Twins.rich(x);
        for (int i = Twins.SAYINGS; i < 200; i++) {
            if (i % 2 == 0) {
                x.say(1, Twins.THING_OF_RULE, true);
            } else {
                x.mourn(1, 0, true);
            }
        }
    }

    private static void fault(String text, int due) {
        LifeKeys x = new LifeKeys();
        Texts.tape(x, text);
        is("fault of '" + text + "'", x.fault(), due);
        is("rule of '" + text + "'", x.rule(), due == NONE ? 0 : NONE);
    }

    private static void taken(String... texts) {
        for (String text : texts) {
            fault(text, NONE);
        }
    }

    /** Whether a text holds on DAY 5, when 0 said yes and 1 no on DAY 0, 2 is dead, and it was ASKED on DAY 0. */
    private static void holds(String text, int due) {
        LifeKeys x = with(4);
        rule(x, "0{h0}");
        is("rule " + text, rule(x, text), 1);
        x.seal(1, 1, true);
        x.death(2, 0);
        x.say(0, 0, true);
        x.say(1, 0, false);
        x.ask(0);
        is(text, x.may(0, 5, 0), due);
    }

    private static void termsOfTexts() {
        terms("RULES (20 texts at most):", () -> {
            LifeKeys x = new LifeKeys();
            for (int i = 0; i < 20; i++) {
                is("rule", rule(x, "w" + i), i);
            }
            is("a 21st", rule(x, "w1"), NONE);
        });
        terms("ANY: ALLS with | between;", () -> {
            taken("h1|h2", "h1|h2|h3", "h1&h2|h3&h4", "h1|h2&h3");
            fault("|h1", 0);
            fault("h1|", 3);
            fault("h1||h2", 3);
            fault("h1|&h2", 3);
            holds("h1|h0", 1);
            holds("h0|h1", 1);
            holds("h1|h3", 0);
            holds("h1|h3|h0", 1);
            holds("h0|h1&h3", 1);
            holds("h3&h1|h0", 1);
        });
        terms("ALL: UNITS with & between;", () -> {
            taken("h1&h2", "h1&h2&h3");
            fault("&h1", 0);
            fault("h1&", 3);
            fault("h1&&h2", 3);
            fault("h1&|h2", 3);
            holds("h0&n1", 1);
            holds("h0&h1", 0);
            holds("h1&h0", 0);
            holds("h0&n1&d2&w5", 1);
            holds("h0&n1&d2&w6", 0);
        });
        terms("UNIT: ! UNIT, ( ANY ), number { ANYS with , between }, or one of h n d w with a number.", () -> {
            taken("!h1", "(h1)", "(h1|h2)", "1{h1}", "1{h1,h2}", "1{h1|h2,h3&h4,(h5),!h6,1{h7}}", "h1", "n1", "d1", "w1");
            fault("!", 1);
            fault("h1!h2", 2);
            fault("!|h1", 1);
            fault("()", 1);
            fault("(h1", 3);
            fault("(h1}", 3);
            fault("(h1,h2)", 3);
            fault("h1)", 2);
            fault("1{}", 2);
            fault("1{,h1}", 2);
            fault("1{h1,}", 5);
            fault("1{h1,,h2}", 5);
            fault("1{h1)", 4);
            fault("1{h1", 4);
            fault("1{h1}}", 5);
            fault("{h1}", 0);
            fault("1(h1)", 1);
            fault("1", 1);
            fault("h1,h2", 2);
            fault("h1h2", 2);
            fault("(h1)(h2)", 4);
            fault("1h1", 1);
            for (char other : new char[] {'a', 'g', 'i', 'm', 'o', 'c', 'e', 'v', 'x', 'H', 'N', 'D', 'W', '/', ':', '-', 1, 31, 127, 255}) {
                fault(other + "1", 0);
            }
            holds("!h1&h0", 1);
            holds("!(h0&h1)", 1);
            holds("(h0|h1)&h1", 0);
            holds("!!h0", 1);
            holds("!1{h0}", 0);
        });
    }

    private static void termsOfNumbers() {
        terms("Numbers have one to three digits;", () -> {
            taken("h1", "h01", "h001", "n11", "n011", "d0", "d00", "d000", "w0", "w00", "w000", "w9", "w99", "w999", "0{h1}", "00{h1}",
                "999{h1}");
            fault("h", 1);
            fault("n", 1);
            fault("d&h1", 1);
            fault("w", 1);
            fault("hh", 1);
            fault("h-1", 1);
            fault("h0001", 4);
            fault("n0000", 4);
            fault("d0011", 4);
            fault("w0000", 4);
            fault("w1000", 4);
            fault("0001{h1}", 3);
            fault("1000{h1}", 3);
        });
        terms("those of h n d are 0 .. 11.", () -> {
            for (char letter : new char[] {'h', 'n', 'd'}) {
                for (int number = 0; number < 1000; number++) {
                    String text = "" + letter + number;
                    fault(text, number <= 11 ? NONE : text.length() - 1);
                }
                fault(letter + "011", NONE);
                fault(letter + "012", 3);
            }
            taken("w12", "w100", "12{h1}", "100{h1}");
        });
        terms("Blanks (32) may stand between all these, not within numbers;", () -> {
            taken("h 1", "n  11", "d 0", "w 999", "! h1", "! ! h1", "( h1 )", "1 { h1 }", "1{ h1 , h2 }", "h1 | h2", "h1 & h2", " h1",
                "h1 ", "   1   {   h   1   ,   !   (   n   2   |   d   3   )   }   ");
            fault("w1 2", 3);
            fault("h1 1", 3);
            fault("1 1{h1}", 2);
            fault("h1\t", 2);
            fault("h\t1", 1);
            fault("\th1", 0);
            fault("h1\n", 2);
            fault("h1" + (char) 160, 2);
            fault("h1" + (char) 31, 2);
            fault("h1" + (char) 33, 2);
            taken(signs(' ', 158) + "h1", "h1" + signs(' ', 158), "h" + signs(' ', 158) + "1");
        });
        terms("at most eight of ( { ! within one another.", () -> {
            taken("((((((((h1))))))))", "!!!!!!!!h1", "1{1{1{1{1{1{1{1{h1}}}}}}}}", "!(1{!(1{!(h1)})})", "(!(!(!(!h1))))");
            taken("(h1)&(h1)&(h1)&(h1)&(h1)&(h1)&(h1)&(h1)&(h1)", "!h1|!h1|!h1|!h1|!h1|!h1|!h1|!h1|!h1", "!!!!!!!!h1&!!!!!!!!h1",
                "1{!!!!!!!h1,!!!!!!!h2}", "((((((((h1))))))))|((((((((h1))))))))", "1{h1}&1{h1}&1{h1}&1{h1}&1{h1}&1{h1}&1{h1}&1{h1}&1{h1}");
            fault("(((((((((h1)))))))))", 8);
            fault("!!!!!!!!!h1", 8);
            fault("1{1{1{1{1{1{1{1{1{h1}}}}}}}}}", 17);
            fault("!(1{!(1{!(!h1)})})", 10);
            fault("1{h1,!!!!!!!!h2}", 12);
            fault("!!!!!!!!h1&!!!!!!!!!h1", 19);
        });
    }

    private static void termsOfFaults() {
        terms("FAULT: the first byte at which no RULE can go on", () -> {
            fault("x", 0);
            fault("xx", 0);
            fault("h1x", 2);
            fault("h1xh2x", 2);
            fault("h1&x", 3);
            fault("h1 x", 3);
            fault("(h1|n2)x", 7);
            fault("2{h1,n2,x}", 8);
            fault("h1&h2|h3&h4)", 11);
            fault(signs(' ', 159) + "x", 159);
            fault("h1" + signs(' ', 157) + "x", 159);
        });
        terms("(the length, if it ends too early);", () -> {
            fault("", 0);
            fault(" ", 1);
            fault(signs(' ', 160), 160);
            fault("h", 1);
            fault("h ", 2);
            fault("h1&", 3);
            fault("h1& ", 4);
            fault("h1|", 3);
            fault("!", 1);
            fault("(", 1);
            fault("(h1", 3);
            fault("(h1 ", 4);
            fault("1", 1);
            fault("1 ", 2);
            fault("1{", 2);
            fault("1{h1", 4);
            fault("1{h1,", 5);
            fault(signs(' ', 159) + "h", 160);
            fault(signs(' ', 152) + "((((((((", 160);
        });
        terms("a fourth digit,", () -> {
            fault("h1234", 4);
            fault("h0000", 4);
            fault("n12345", 4);
            fault("d9999", 4);
            fault("w1234", 4);
            fault("w 1234", 5);
            fault("1234{h1}", 3);
            fault("0000", 3);
            fault("h1&w00000", 7);
        });
        terms("the last digit of a number out of bounds,", () -> {
            fault("h12", 2);
            fault("h012", 3);
            fault("h120", 3);
            fault("h999", 3);
            fault("h 12", 3);
            fault("h12 ", 2);
            fault("h12&", 2);
            fault("n99", 2);
            fault("d20", 2);
            fault("h1&(n1|d12)", 9);
        });
        terms("a ninth of these are such.", () -> {
            fault("(((((((((", 8);
            fault("( ( ( ( ( ( ( ( (", 16);
            fault("!!!!!!!!!", 8);
            fault("!!!!!!!!(", 8);
            fault("!!!!!!!!1{h1}", 9);
            fault("!!!!!!!!1 {h1}", 10);
            fault("((((((((h1|!h2))))))))", 11);
            fault("((((((((h1)&(h2&(h3", 16);
            fault("((((((((h1)&(h2)&(h3", 20);
            fault("((((((((h1)&!!h2)))))))", 13);
            fault("((((((((!h1))))))))", 8);
        });
    }

    private static void termsOfHolding() {
        terms("What holds for a THING on a DAY as known in q:", () -> {
            LifeKeys x = with(1);
            rule(x, "h0");
            x.seal(1, 0, true);
            x.seal(1, 0, true);
            x.say(0, 0, true);
            is("of this THING", x.may(0, 0, 0), 1);
            is("not of another", x.may(1, 0, 0), 0);
        });
        terms("h: the HOLDER's last SAYING of it told up to the DAY and up to q was yes;", () -> saidOn("h0", true));
        terms("n: it was no;", () -> saidOn("n0", false));
        terms("d: the HOLDER is DEAD then;", () -> {
            LifeKeys x = with(2);
            rule(x, "h1");
            rule(x, "d0");
            x.seal(1, 1, true);
            x.death(0, 0);
            x.days(3);
            x.mourn(1, 0, true);
            x.days(2);
            x.mourn(1, 0, false);
            x.days(1);
            for (int day = 0; day <= 6; day++) {
                for (int q = 0; q <= 6; q++) {
                    int up = Math.min(day, q);
                    is("DAY " + day + ", q " + q, x.may(0, day, q), up >= 3 && up < 5 ? 1 : 0);
                    is("as dead tells", x.may(0, day, q), x.dead(0, day, q));
                }
            }
            holds("d2", 1);
            holds("d0", 0);
            holds("d11", 0);
            LifeKeys all = with(12);
            rule(all, "0{h0}");
            rule(all, "12{d0,d1,d2,d3,d4,d5,d6,d7,d8,d9,d10,d11}");
            all.seal(1, 1, true);
            for (int i = 0; i < 12; i++) {
                is("not all of twelve", all.may(0, 0, 0), 0);
                all.death(i, 0);
            }
            is("all twelve", all.may(0, 0, 0), 1);
        });
        terms("w: that many DAYS or more went by since the THING was ASKED first (up to the DAY and q);", () -> {
            for (int wait : new int[] {0, 1, 2, 999}) {
                LifeKeys x = new LifeKeys();
                rule(x, "w" + wait);
                x.seal(1, 0, true);
                is("never ASKED", x.may(0, 2000, 0), 0);
                x.days(4);
                x.ask(0);
                x.days(2);
                is("one DAY too early", x.may(0, 4 + wait - 1, 6), 0);
                is("that DAY", x.may(0, 4 + wait, 6), 1);
                is("later", x.may(0, 4 + wait + 1, 6), 1);
                is("known on the DAY of asking", x.may(0, 4 + wait, 4), 1);
                is("not known before", x.may(0, 2000, 3), 0);
            }
        });
        terms("number { }: so many at least of these hold.", () -> {
            holds("0{h1}", 1);
            holds("0{h0}", 1);
            holds("1{h0}", 1);
            holds("1{h1}", 0);
            holds("2{h0}", 0);
            holds("2{h0,n1,h3}", 1);
            holds("3{h0,n1,d2}", 1);
            holds("3{h0,n1,h3}", 0);
            holds("4{h0,n1,d2}", 0);
            holds("2{h0,h0}", 1);
            holds("999{h0}", 0);
            holds("2{h0|h1,h0&h1,n1}", 1);
            holds("h0&0{h1}", 1);
            holds("h0&1{h0}", 1);
            holds("h0&1{h1}", 0);
            holds("h0&2{h1,n1}", 0);
            holds("2{h0,1{h1},h3}", 0);
            holds("2{h0,1{h1,n1},h3}", 1);
            // As many as a TAPE can hold: 52 of them.
            StringBuilder many = new StringBuilder("{h0");
            for (int i = 1; i < 52; i++) {
                many.append(",h0");
            }
            holds("52" + many + "}", 1);
            holds("53" + many + "}", 0);
        });
    }

    /** 0 says so on DAY 2, otherwise on DAY 4, and so again on DAY 6. */
    private static void saidOn(String text, boolean yes) {
        LifeKeys x = with(2);
        rule(x, text);
        x.seal(1, 0, true);
        x.days(2);
        x.say(1, 0, yes);
        is("another one said it", x.may(0, 2, 2), 0);
        x.say(0, 0, yes);
        x.days(2);
        x.say(0, 0, !yes);
        x.days(2);
        x.say(0, 0, !yes);
        x.say(0, 0, yes);
        for (int day = 0; day <= 7; day++) {
            for (int q = 0; q <= 6; q++) {
                int up = Math.min(day, q);
                boolean due = up >= 2 && up < 4 || up >= 6;
                is(text + " on DAY " + day + " as known in " + q, x.may(0, day, q), due ? 1 : 0);
            }
        }
        x.say(0, 0, !yes);
        is("the last of one DAY", x.may(0, 6, 6), 0);
    }

    private static void termsOfDeath() {
        terms("SAYINGS (200 at most):", () -> {
            LifeKeys x = built(BoundsOfRules::fullSayings);
            is("200", x.count(7), 200);
            is("a 201st of a THING", x.say(0, 0, true), false);
            is("a 201st of a death", x.mourn(0, 1, true), false);
        });
        terms("a HOLDER says yes or no of a THING;", () -> {
            LifeKeys x = with(1);
            rule(x, "h0&!n0");
            rule(x, "n0&!h0");
            x.seal(1, 0, true);
            x.seal(1, 1, true);
            is("nothing said: neither", x.may(0, 0, 0) + x.may(1, 0, 0), 0);
            x.say(0, 0, true);
            x.say(0, 1, true);
            is("yes", 10 * x.may(0, 0, 0) + x.may(1, 0, 0), 10);
            x.say(0, 0, false);
            x.say(0, 1, false);
            is("no", 10 * x.may(0, 0, 0) + x.may(1, 0, 0), 1);
        });
        terms("or that a HOLDER is dead (yes), or not (no).", () -> {
            LifeKeys x = with(3);
            rule(x, "h0&!n0");
            rule(x, "n0&!h0");
            x.death(1, 0);
            x.death(2, 1);
            is("nothing said: neither", x.dead(1, 0, 0) + x.dead(2, 0, 0), 0);
            x.mourn(0, 1, true);
            x.mourn(0, 2, true);
            is("yes", 10 * x.dead(1, 0, 0) + x.dead(2, 0, 0), 10);
            x.mourn(0, 1, false);
            x.mourn(0, 2, false);
            is("no", 10 * x.dead(1, 0, 0) + x.dead(2, 0, 0), 1);
        });
        terms("DEAD is a HOLDER on a DAY as known in q, if its RULE of death (told last up to q) holds,", () -> {
            LifeKeys x = with(2);
            rule(x, "0{h0}");
            rule(x, "1{h0}");
            is("without a RULE of death", x.dead(0, 0, 0), 0);
            x.days(2);
            x.death(0, 0);
            x.days(2);
            x.death(0, 1);
            x.days(2);
            x.death(0, 1);
            x.death(0, 0);
            x.death(1, 1);
            int[] due = {0, 0, 1, 1, 0, 0, 1};
            for (int q = 0; q <= 6; q++) {
                is("as known in " + q, x.dead(0, 0, q), due[q]);
                is("as known in " + q + ", on a DAY to come", x.dead(0, 2000, q), due[q]);
            }
            is("another one's is its own", x.dead(1, 6, 6), 0);
        });
        terms("with h and n by SAYINGS of its death", () -> {
            LifeKeys x = with(3);
            rule(x, "h0&n1");
            x.seal(1, 0, true);
            x.death(2, 0);
            x.say(0, 0, true);
            x.say(1, 0, false);
            is("what is said of a THING does not count", x.dead(2, 0, 0), 0);
            x.mourn(0, 1, true);
            x.mourn(1, 0, false);
            is("nor what is said of other deaths", x.dead(2, 0, 0), 0);
            x.mourn(0, 2, true);
            x.mourn(1, 2, false);
            is("what is said of its death does", x.dead(2, 0, 0), 1);
            x.say(0, 0, false);
            is("and nothing else", x.dead(2, 0, 0), 1);
        });
        terms("with h and n by SAYINGS of its death", () -> {
            LifeKeys x = with(12);
            rule(x, "h0|h1|w0");
            for (int i = 0; i < 40; i++) {
                x.seal(1, 0, true);
                x.say(0, i, true);
            }
            for (int i = 0; i < 12; i++) {
                x.death(i, 0);
                is("40 THINGS are no deaths, " + i, x.dead(i, 2000, 0), 0);
            }
            LifeKeys y = with(12);
            rule(y, "h0|h1");
            for (int i = 0; i < 40; i++) {
                y.seal(1, 0, true);
            }
            for (int i = 0; i < 12; i++) {
                y.mourn(i == 0 ? 1 : 0, i, true);
            }
            for (int i = 0; i < 40; i++) {
                is("12 deaths are no THINGS, " + i, y.may(i, 0, 0), 0);
            }
        });
        terms("(d never holds there;", () -> {
            LifeKeys x = with(2);
            rule(x, "0{h0}");
            rule(x, "d0");
            rule(x, "d1");
            rule(x, "!d0");
            x.death(0, 0);
            is("the first is dead", x.dead(0, 0, 0), 1);
            x.death(1, 1);
            is("of another one that is dead", x.dead(1, 0, 0), 0);
            x.death(1, 2);
            is("of itself", x.dead(1, 0, 0), 0);
            x.death(1, 3);
            is("not d", x.dead(1, 0, 0), 1);
        });
        terms("w: since one first said that it is dead, yes).", () -> {
            LifeKeys x = with(3);
            rule(x, "w2");
            rule(x, "w0");
            x.death(2, 0);
            x.death(1, 1);
            x.mourn(0, 2, false);
            is("a no begins nothing", x.dead(2, 2000, 0), 0);
            is("w0 without a word", x.dead(1, 2000, 0), 0);
            x.days(3);
            x.mourn(0, 2, true);
            x.days(1);
            x.mourn(0, 2, false);
            x.mourn(1, 2, true);
            is("1 DAY", x.dead(2, 4, 4), 0);
            is("2 DAYS since the first, though it was taken back", x.dead(2, 5, 4), 1);
            is("as known in 3", x.dead(2, 5, 3), 1);
            is("as known in 2", x.dead(2, 2000, 2), 0);
            is("a DAY before it was said", x.dead(2, 2, 4), 0);
            LifeKeys y = with(3);
            rule(y, "w0");
            y.death(1, 0);
            y.death(2, 0);
            y.mourn(0, 1, true);
            is("the very first SAYING", y.dead(1, 0, 0), 1);
            is("of another one", y.dead(2, 2000, 0), 0);
            for (int i = 1; i < 199; i++) {
                y.mourn(0, 2, false);
            }
            is("198 times no", y.dead(2, 2000, 0), 0);
            y.mourn(0, 1, false);
            is("200 SAYINGS, none of them", y.dead(2, 2000, 0), 0);
        });
    }

    private static void termsOfThings() {
        terms("THINGS (40 at most):", () -> {
            LifeKeys x = new LifeKeys();
            x.key(5, false);
            rule(x, "w1");
            for (int i = 0; i < 40; i++) {
                is("seal", x.seal(1, 0, i % 2 == 0), i);
            }
            is("a 41st to a KEY", x.seal(1, 0, false), NONE);
            is("a 41st to a RULE", x.seal(1, 0, true), NONE);
        });
        terms("a digest (0 .. 1,018), SEALED to a KEY, or to a RULE.", () -> {
            LifeKeys x = new LifeKeys();
            x.key(5, false);
            rule(x, "w1");
            for (int kind = 0; kind < 2; kind++) {
                boolean byRule = kind == 1;
                is("-1", x.seal(-1, 0, byRule), NONE);
                is("0", x.seal(0, 0, byRule), 2 * kind);
                is("1,018", x.seal(1018, 0, byRule), 2 * kind + 1);
                is("1,019", x.seal(1019, 0, byRule), NONE);
                is("may of it", x.may(2 * kind, 0, 0), byRule ? 0 : NONE);
            }
        });
        terms("ASKING for a THING: the first time counts.", () -> {
            LifeKeys x = new LifeKeys();
            rule(x, "w2");
            x.seal(1, 0, true);
            x.days(3);
            is("first", x.ask(0), true);
            x.days(1);
            is("second", x.ask(0), false);
            is("2 DAYS since the first", x.may(0, 5, 4), 1);
            is("1 DAY since the first", x.may(0, 4, 4), 0);
        });
        terms("It is OPENED, if it is SEALED to a RULE that holds on NOW as known NOW;", () -> {
            LifeKeys x = with(1);
            rule(x, "w2&h0");
            x.seal(1, 0, true);
            x.ask(0);
            x.say(0, 0, true);
            x.days(1);
            is("it will hold tomorrow", x.may(0, 2, 1), 1);
            is("not opened", x.unseal(0), 0);
            x.days(1);
            x.say(0, 0, false);
            is("it held as known yesterday", x.may(0, 2, 1), 1);
            is("not opened", x.unseal(0), 0);
            x.say(0, 0, true);
            is("opened", x.unseal(0), 1);
        });
        terms("it stays so.", () -> {
            LifeKeys x = with(1);
            rule(x, "h0");
            x.seal(1, 0, true);
            x.say(0, 0, true);
            x.unseal(0);
            x.say(0, 0, false);
            x.days(1);
            is("the RULE does not hold", x.may(0, 1, 1), 0);
            is("still opened", x.unseal(0), 2);
            is("count", x.count(13), 1);
        });
    }

    private static void fault() {
        test(23, "The FAULT of the TAPE as a RULE; NONE.", () -> {
            LifeKeys x = rich();
            is("none", x.fault(), NONE);
            is("the TAPE stays", x.count(11), Twins.TAPE);
            is("no RULE is made by it", x.count(5), Twins.RULES);
            is("the same again", x.fault(), NONE);
            is("an empty TAPE", new LifeKeys().fault(), 0);
            LifeKeys y = built(BoundsOfRules::fullRules);
            is("none, though there are 20", y.fault(), NONE);
            Texts.tape(y, "h1&n2x");
            is("5", y.fault(), 5);
        });
    }

    private static void rule() {
        test(24, "The TAPE (empty then) is a RULE: its number.", () -> {
            LifeKeys x = rich();
            is("its number", x.rule(), Twins.RULES);
            is("the TAPE is empty", x.count(11), 0);
            is("count", x.count(5), Twins.RULES + 1);
            LifeKeys y = with(1);
            // Texts of 160 bytes, each kept apart from its neighbours.
            for (int i = 0; i < 20; i++) {
                is("rule", rule(y, (i % 3 == 0 ? "0" : "1") + "{" + signs(' ', 155) + "h0}"), i);
                y.seal(1, i, true);
            }
            for (int i = 0; i < 20; i++) {
                is("rule " + i, y.may(i, 0, 0), i % 3 == 0 ? 1 : 0);
            }
        });
        test(24, "The TAPE (empty then) is a RULE: its number.", () -> {
            // The longest texts with the most words: each RULE has room for them.
            LifeKeys x = with(1);
            StringBuilder most = new StringBuilder("!!!!!!!!h0");
            while (most.length() < 148) {
                most.append("|!!!!!!!!h0");
            }
            for (int i = 0; i < 20; i++) {
                is("rule", rule(x, i % 2 == 0 ? most.toString() : "!!0{h0}"), i);
                x.seal(1, i, true);
            }
            for (int i = 0; i < 20; i++) {
                is("rule " + i, x.may(i, 0, 0), i % 2);
            }
            x.say(0, 18, true);
            is("the last but one", x.may(18, 0, 0), 1);
        });
        test(24, "NONE: a FAULT,", () -> {
            for (String text : new String[] {"", " ", "h12", "h1&", "x", "(h1", "h1 h2", "!!!!!!!!!h1", "w1000"}) {
                none(x -> {
                    Twins.rich(x);
                    Texts.tape(x, text);
                }, "rule of '" + text + "'", LifeKeys::rule);
            }
        });
        test(24, "there are 20.", () -> {
            LifeKeys x = new LifeKeys();
            for (int i = 0; i < 19; i++) {
                rule(x, "w1");
            }
            is("the 20th", rule(x, "w1"), 19);
            is("a 21st", rule(x, "w1"), NONE);
            none(BoundsOfRules::fullRules, "a 21st", LifeKeys::rule);
        });
    }

    private static void death() {
        test(25, "A HOLDER's RULE of death.", () -> {
            LifeKeys x = with(12);
            rule(x, "0{h0}");
            is("the first", x.death(0, 0), true);
            is("the last", x.death(11, 0), true);
            is("dead", x.dead(0, 0, 0) + x.dead(11, 0, 0), 2);
            is("another", x.dead(5, 0, 0), 0);
            is("the same once more", x.death(0, 0), true);
        });
        test(25, "False: no such ones;", () -> {
            for (int holder : noSuch(Twins.HOLDERS)) {
                no("death(" + holder + ", 0)", x -> x.death(holder, 0));
            }
            for (int rule : noSuch(Twins.RULES)) {
                no("death(0, " + rule + ")", x -> x.death(0, rule));
            }
            no(BoundsOfRules::fullRules, "death(0, 20)", x -> x.death(0, 20));
            is("the last RULE", rich().death(0, Twins.RULES - 1), true);
            is("the last HOLDER", rich().death(Twins.HOLDERS - 1, 0), true);
        });
        test(25, "there were 40.", () -> {
            LifeKeys x = with(2);
            rule(x, "0{h0}");
            rule(x, "1{h0}");
            for (int i = 0; i < 39; i++) {
                is("death", x.death(0, 1), true);
            }
            is("the 40th", x.death(1, 0), true);
            is("it counts", x.dead(1, 0, 0), 1);
            is("a 41st", x.death(0, 0), false);
            is("it does not count", x.dead(0, 0, 0), 0);
            no(BoundsOfRules::fullDeaths, "a 41st", y -> y.death(4, 1));
        });
    }

    private static void seal() {
        test(26, "A THING SEALED to a KEY (or, by a RULE, to that): its number.", () -> {
            LifeKeys x = rich();
            is("to a KEY", x.seal(1, 4, false), Twins.THINGS);
            is("to a RULE", x.seal(1, 2, true), Twins.THINGS + 1);
            is("of a KEY", x.may(Twins.THINGS, 7, 7), NONE);
            is("of a RULE", x.may(Twins.THINGS + 1, 7, 7), 0);
        });
        test(26, "NONE: digest,", () -> {
            for (int digest : new int[] {-1, 1019, 1020, MIN, MAX}) {
                none("seal(" + digest + ", 0, false)", x -> x.seal(digest, 0, false));
                none("seal(" + digest + ", 0, true)", x -> x.seal(digest, 0, true));
            }
            LifeKeys x = rich();
            is("0", x.seal(0, 0, false), Twins.THINGS);
            is("1,018", x.seal(1018, 0, true), Twins.THINGS + 1);
        });
        test(26, "no such ones,", () -> {
            for (int key : noSuch(Twins.KEYS)) {
                none("seal(1, " + key + ", false)", x -> x.seal(1, key, false));
            }
            for (int rule : noSuch(Twins.RULES)) {
                none("seal(1, " + rule + ", true)", x -> x.seal(1, rule, true));
            }
            // There are 5 KEYS and 3 RULES.
            is("KEY 4", rich().seal(1, 4, false), Twins.THINGS);
            none("RULE 4", x -> x.seal(1, 4, true));
            LifeKeys x = new LifeKeys();
            rule(x, "w1");
            is("a RULE, where there is no KEY", x.seal(1, 0, false), NONE);
            is("a RULE", x.seal(1, 0, true), 0);
        });
        test(26, "there are 40.", () -> {
            LifeKeys x = new LifeKeys();
            x.key(5, false);
            for (int i = 0; i < 39; i++) {
                x.seal(1, 0, false);
            }
            is("the 40th", x.seal(1, 0, false), 39);
            is("a 41st", x.seal(1, 0, false), NONE);
            none(BoundsOfRules::fullThings, "a 41st to a KEY", y -> y.seal(1, 0, false));
            none(BoundsOfRules::fullThings, "a 41st to a RULE", y -> y.seal(1, 0, true));
        });
    }

    private static void say() {
        test(27, "A SAYING of a THING.", () -> {
            LifeKeys x = with(12);
            x.key(5, false);
            for (int i = 0; i < 40; i++) {
                x.seal(1, 0, false);
            }
            is("the last of the last", x.say(11, 39, true), true);
            is("the same once more", x.say(11, 39, true), true);
            is("no", x.say(0, 0, false), true);
            is("count", x.count(7), 3);
        });
        test(27, "False: no such ones;", () -> {
            for (int holder : noSuch(Twins.HOLDERS)) {
                no("say(" + holder + ", 1, true)", x -> x.say(holder, 1, true));
                no("say(" + holder + ", 1, false)", x -> x.say(holder, 1, false));
            }
            for (int thing : noSuch(Twins.THINGS)) {
                no("say(0, " + thing + ", true)", x -> x.say(0, thing, true));
            }
            for (int thing = 40; thing < 52; thing++) {
                int none = thing;
                no("say(0, " + thing + ", true), which is no death", x -> x.say(0, none, true));
            }
        });
        test(27, "there were 200.", () -> {
            LifeKeys x = with(2);
            x.key(5, false);
            x.seal(1, 0, false);
            for (int i = 0; i < 199; i++) {
                x.say(0, 0, true);
            }
            is("the 200th", x.say(0, 0, true), true);
            is("a 201st", x.say(0, 0, true), false);
            no(BoundsOfRules::fullSayings, "a 201st", y -> y.say(0, Twins.THING_OF_RULE, false));
        });
    }

    private static void mourn() {
        test(28, "A SAYING of a HOLDER's death.", () -> {
            LifeKeys x = with(12);
            is("of the last", x.mourn(0, 11, true), true);
            is("by the last", x.mourn(11, 0, false), true);
            is("the same once more", x.mourn(11, 0, false), true);
            is("count", x.count(7), 3);
        });
        test(28, "False: no such ones,", () -> {
            for (int holder : noSuch(Twins.HOLDERS)) {
                no("mourn(" + holder + ", 1, true)", x -> x.mourn(holder, 1, true));
                no("mourn(1, " + holder + ", true)", x -> x.mourn(1, holder, true));
                no("mourn(" + holder + ", " + holder + ", true)", x -> x.mourn(holder, holder, true));
            }
        });
        test(28, "alike;", () -> {
            for (int holder = 0; holder < Twins.HOLDERS; holder++) {
                int same = holder;
                no("mourn(" + holder + ", " + holder + ", true)", x -> x.mourn(same, same, true));
                no("mourn(" + holder + ", " + holder + ", false)", x -> x.mourn(same, same, false));
            }
        });
        test(28, "there were 200.", () -> {
            LifeKeys x = with(2);
            for (int i = 0; i < 199; i++) {
                x.mourn(0, 1, true);
            }
            is("the 200th", x.mourn(0, 1, true), true);
            is("a 201st", x.mourn(0, 1, true), false);
            no(BoundsOfRules::fullSayings, "a 201st", y -> y.mourn(0, 2, false));
        });
    }

    private static void ask() {
        test(29, "ASKING.", () -> {
            LifeKeys x = built(BoundsOfRules::fullThings);
            is("of a KEY", x.ask(Twins.THING_OF_KEY), true);
            is("of a RULE, opened", x.ask(Twins.THING_OPENED), true);
            is("the last", x.ask(39), true);
            LifeKeys y = new LifeKeys();
            rule(y, "w0");
            y.seal(1, 0, true);
            y.ask(0);
            is("on DAY 0", y.may(0, 0, 0), 1);
        });
        test(29, "False: no such THING,", () -> {
            for (int thing : noSuch(Twins.THINGS)) {
                no("ask(" + thing + ")", x -> x.ask(thing));
            }
            no(BoundsOfRules::fullThings, "ask(40)", x -> x.ask(40));
        });
        test(29, "it was.", () -> {
            no("asked before", x -> x.ask(Twins.THING_OF_RULE));
            LifeKeys x = new LifeKeys();
            rule(x, "w0");
            x.seal(1, 0, true);
            is("asked on DAY 0", x.ask(0), true);
            is("asked on DAY 0 before", x.ask(0), false);
        });
    }

    private static void may() {
        test(30, "Whether a THING's RULE holds on a DAY (0 .. 2,000) as known in q (1, 0).", () -> {
            LifeKeys x = rich();
            is("DAY 0, q 0", x.may(1, 0, 0), 0);
            is("DAY 2,000, q NOW", x.may(1, 2000, Twins.NOW), 1);
            is("DAY 2,000, q 0", x.may(1, 2000, 0), 0);
            is("DAY 0, q NOW", x.may(1, 0, Twins.NOW), 0);
            is("DAY 5", x.may(1, 5, Twins.NOW), 1);
            is("DAY 4", x.may(1, 4, Twins.NOW), 0);
            is("the last DAY that counts", built(BoundsOfKeys::lastDay).may(1, 2000, 2000), 1);
        });
        test(30, "NONE: no such ones,", () -> {
            for (int thing : noSuch(Twins.THINGS)) {
                none("may(" + thing + ", 0, 0)", x -> x.may(thing, 0, 0));
            }
            for (int day : new int[] {-1, 2001, 2002, MIN, MAX}) {
                none("may(1, " + day + ", 0)", x -> x.may(1, day, 0));
            }
            for (int q : new int[] {-1, Twins.NOW + 1, 2000, MIN, MAX}) {
                none("may(1, 0, " + q + ")", x -> x.may(1, 0, q));
            }
        });
        test(30, "it is SEALED to a KEY.", () -> none("may(0, 7, 7)", x -> x.may(Twins.THING_OF_KEY, 7, 7)));
    }

    private static void dead() {
        test(31, "Whether a HOLDER is DEAD on a DAY as known in q (1, 0).", () -> {
            LifeKeys x = rich();
            is("DAY 3, q 3", x.dead(2, 3, 3), 1);
            is("DAY 2, q NOW", x.dead(2, 2, Twins.NOW), 0);
            is("DAY 2,000, q 2", x.dead(2, 2000, 2), 0);
            is("DAY 2,000, q NOW", x.dead(2, 2000, Twins.NOW), 1);
            is("DAY 0, q 0", x.dead(2, 0, 0), 0);
            is("another", x.dead(4, 2000, Twins.NOW), 0);
        });
        test(31, "NONE: no such ones.", () -> {
            for (int holder : noSuch(Twins.HOLDERS)) {
                none("dead(" + holder + ", 0, 0)", x -> x.dead(holder, 0, 0));
            }
            for (int day : new int[] {-1, 2001, 2002, MIN, MAX}) {
                none("dead(2, " + day + ", 0)", x -> x.dead(2, day, 0));
            }
            for (int q : new int[] {-1, Twins.NOW + 1, 2000, MIN, MAX}) {
                none("dead(2, 0, " + q + ")", x -> x.dead(2, 0, q));
            }
        });
    }

    private static void unseal() {
        test(32, "OPENING a THING SEALED to a RULE: 1 it is OPENED now,", () -> {
            LifeKeys x = rich();
            is("holds", x.may(1, Twins.NOW, Twins.NOW), 1);
            is("opened", x.unseal(1), 1);
            is("count", x.count(13), 2);
        });
        test(32, "0 the RULE does not hold,", () -> {
            refused(x -> {
                Twins.rich(x);
                x.say(0, Twins.THING_OF_RULE, false);
            }, "unseal(1)", 0, x -> x.unseal(1));
        });
        test(32, "2 it was.", () -> {
            refused(Twins::rich, "unseal(2)", 2, x -> x.unseal(Twins.THING_OPENED));
            LifeKeys x = rich();
            x.unseal(1);
            is("opened before", x.unseal(1), 2);
            is("count", x.count(13), 2);
        });
        test(32, "NONE: no such one.", () -> {
            for (int thing : noSuch(Twins.THINGS)) {
                none("unseal(" + thing + ")", x -> x.unseal(thing));
            }
            none("SEALED to a KEY", x -> x.unseal(Twins.THING_OF_KEY));
            none(BoundsOfRules::fullThings, "unseal(40)", x -> x.unseal(40));
        });
    }
}
