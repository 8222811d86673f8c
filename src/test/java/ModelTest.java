import java.util.ArrayList;
import java.util.List;
import java.util.NoSuchElementException;
import java.util.Random;

/** Made-up runs of calls; each answer of LifeKeys must be the one of the Model. */
public final class ModelTest {
    private static final String[] CALLS = {"days", "holder", "key", "feed", "end", "make", "open", "told", "give", "take",
        "wrap", "cut", "part", "again", "piece", "checks", "fits", "lay", "join", "left", "got", "fault", "rule", "death",
        "seal", "say", "mourn", "ask", "may", "dead", "unseal", "sign", "falsely", "several", "signed", "taken", "burn",
        "old", "stands", "lend", "use", "back", "fall", "fallen", "least", "ways", "first", "better", "order", "count"};

    private final Random random;
    private final int[] weights = new int[CALLS.length];
    private LifeKeys x = new LifeKeys();
    private final Model m = new Model();
    private final List<String> log = new ArrayList<>();
    private int dearLeft = 12;

    private ModelTest(long seed) {
        random = new Random(seed);
        // Each run likes some calls more than others, so that limits are met too.
        for (int i = 0; i < weights.length; i++) {
            weights[i] = random.nextInt(8) == 0 ? 40 : 1 + random.nextInt(6);
        }
    }

    private int below(int n) {
        return n <= 0 ? 0 : random.nextInt(n);
    }

    /** Mostly a number below size, at times one at its edges or anything. */
    private int number(int size) {
        int kind = random.nextInt(24);
        if (kind == 0) {
            return size + random.nextInt(2);
        }
        if (kind == 1) {
            return -1 - random.nextInt(2);
        }
        if (kind == 2 && random.nextInt(4) == 0) {
            return random.nextInt();
        }
        return size > 0 && kind < 9 ? size - 1 - below(Math.min(size, 3)) : below(size);
    }

    private int someHolders() {
        if (random.nextInt(24) == 0) {
            return random.nextInt(3) == 0 ? random.nextInt() : 1 << m.holders;
        }
        return random.nextInt(1 << m.holders);
    }

    private int day() {
        return random.nextInt(20) == 0 ? new int[] {-1, 2000, 2001, m.now + 1}[below(4)] : below(m.now + 1 + below(4));
    }

    private String text(int depth) {
        StringBuilder s = new StringBuilder();
        int kind = random.nextInt(depth > 8 ? 4 : 9);
        if (kind < 4) {
            char letter = "hndw".charAt(kind);
            s.append(letter).append(blank()).append(letter == 'w' ? random.nextInt(12) : random.nextInt(Math.max(1, m.holders)));
        } else if (kind == 4) {
            s.append('!').append(blank()).append(text(depth + 1));
        } else if (kind == 5) {
            s.append('(').append(blank()).append(text(depth + 1)).append(blank()).append(')');
        } else if (kind == 6) {
            s.append(random.nextInt(4)).append(blank()).append('{').append(text(depth + 1));
            for (int i = random.nextInt(3); i > 0; i--) {
                s.append(',').append(blank()).append(text(depth + 1));
            }
            s.append('}');
        } else {
            s.append(text(depth + 1)).append(blank()).append(kind == 7 ? '|' : '&').append(blank()).append(text(depth + 1));
        }
        return s.toString();
    }

    private String blank() {
        return random.nextInt(6) == 0 ? " " : "";
    }

    private String garbled(String s) {
        if (random.nextInt(3) > 0) {
            return s;
        }
        String signs = "hndw0123459!(){},&| x";
        char c = signs.charAt(below(signs.length()));
        int at = below(s.length() + 1);
        int until = Math.min(s.length(), at + below(3));
        return s.substring(0, at) + (random.nextInt(4) == 0 ? "" : c) + s.substring(until);
    }

    private void due(String call, long got, long want) {
        log.add(call + " " + got);
        if (got != want) {
            for (String line : log) {
                System.out.println(line);
            }
            throw new IllegalStateException(call + " answered " + got + ", due is " + want);
        }
    }

    private static long n(boolean b) {
        return b ? 1 : 0;
    }

    private void feed(int[] f) {
        due("feed " + java.util.Arrays.toString(f), x.feed(f[0], f[1], f[2], f[3], f[4]), m.feed(f));
    }

    private void feedText(String s) {
        due("end 0", n(x.end(0)), n(m.end(0)));
        for (int i = 0; i < s.length(); i += 20) {
            int[] f = new int[5];
            for (int j = 0; j < 20 && i + j < s.length(); j++) {
                f[j / 4] |= s.charAt(i + j) << 24 - j % 4 * 8;
            }
            feed(f);
        }
    }

    private void run(int calls) {
        int sum = 0;
        for (int w : weights) {
            sum += w;
        }
        prepare();
        for (int i = 0; i < calls && log.size() < 500; i++) {
            int pick = random.nextInt(sum);
            int which = 0;
            while (pick >= weights[which]) {
                pick -= weights[which];
                which++;
            }
            call(CALLS[which]);
        }
        for (int i = 0; i < 14 && log.size() < 512; i++) {
            due("count " + i, x.count(i), m.count(i));
        }
    }

    /** Most runs begin with something of each sort, so that few of the calls after it are refused. */
    private void prepare() {
        int much = random.nextInt(4);
        String[] first = {"holder", "key", "key", "give", "rule", "seal", "holder", "make", "wrap", "part", "part", "death",
            "fall", "seal", "mourn", "say", "ask", "lend"};
        for (int round = 0; round < much; round++) {
            for (String name : first) {
                call(name);
            }
        }
    }

    private void call(String name) {
        switch (name) {
            case "days" -> { int d = random.nextInt(12) == 0 ? number(1001) : below(3); due("days " + d, x.days(d), m.days(d)); }
            case "holder" -> due("holder", x.holder(), m.holder());
            case "key" -> { int s = number(1019); boolean r = random.nextBoolean(); due("key " + s + " " + r, x.key(s, r), m.key(s, r)); }
            case "feed" -> {
                int kind = random.nextInt(8);
                if (kind == 0) {
                    feed(new int[] {random.nextInt(), random.nextInt(), random.nextInt(), random.nextInt() & 255, 0});
                } else if (kind < 3) {
                    feedText(("a name by which a key is made " + random.nextInt(100) + (char) 233 + "......").substring(below(8), 30 + below(9)));
                } else {
                    feedText(garbled(text(random.nextInt(6))));
                }
            }
            case "end" -> { int k = number(m.tape.length() + 1); due("end " + k, n(x.end(k)), n(m.end(k))); }
            default -> keyCall(name);
        }
    }

    private void keyCall(String name) {
        int k = number(m.keys.size());
        int h = number(m.holders);
        switch (name) {
            case "make" -> {
                if (random.nextInt(3) > 0) {
                    feedText("k" + random.nextInt(1000));
                }
                due("make " + k, x.make(k), m.make(k));
            }
            case "open" -> {
                int got;
                try {
                    got = x.open(k);
                } catch (NoSuchElementException e) {
                    got = -7;
                }
                due("open " + k, got, m.open(k));
            }
            case "told" -> { int w = number(5); due("told " + k + " " + w, x.told(k, w), m.told(k, w)); }
            case "give" -> due("give " + h + " " + k, n(x.give(h, k)), n(m.give(h, k)));
            case "take" -> {
                if (!m.hands.isEmpty() && random.nextInt(4) > 0) {
                    Model.Hand some = m.hands.get(below(m.hands.size()));
                    h = some.holder();
                    k = some.key();
                }
                due("take " + h + " " + k, n(x.take(h, k)), n(m.take(h, k)));
            }
            case "wrap" -> { int o = number(m.keys.size()); due("wrap " + k + " " + o, x.wrap(k, o), m.wrap(k, o)); }
            case "cut" -> { int w = number(m.wraps.size()); due("cut " + w, n(x.cut(w)), n(m.cut(w))); }
            case "burn" -> { int d = day(); due("burn " + k + " " + d, n(x.burn(k, d)), n(m.burn(k, d))); }
            case "old" -> {
                if (random.nextInt(4) == 0) {
                    due("old " + k, n(x.old(k)), n(m.old(k)));
                }
            }
            default -> partCall(name, k, h);
        }
    }

    private void partCall(String name, int k, int h) {
        int p = number(m.partings.size());
        int s = someHolders();
        long seed = random.nextLong();
        switch (name) {
            case "part" -> {
                int need = 1 + below(Integer.bitCount(s)) + (random.nextInt(20) == 0 ? below(3) - 1 : 0);
                due("part " + k + " " + s + " " + need + " " + seed, x.part(k, s, need, seed), m.part(k, s, need, seed));
            }
            case "again" -> due("again " + p + " " + seed, x.again(p, seed), m.again(p, seed));
            case "piece" -> due("piece " + p + " " + h, x.piece(p, h), m.piece(p, h));
            case "checks" -> { int j = number(4); due("checks " + p + " " + j, x.checks(p, j), m.checks(p, j)); }
            case "fits" -> {
                int number = random.nextBoolean() ? m.piece(p, h) : number(1019);
                due("fits " + p + " " + h + " " + number, x.fits(p, h, number), m.fits(p, h, number));
            }
            case "lay" -> {
                int number = random.nextInt(3) > 0 ? m.piece(p, h) : number(1019);
                due("lay " + h + " " + number, x.lay(h, number), m.lay(h, number));
            }
            case "join" -> due("join", x.join(), m.join());
            case "left" -> due("left " + p + " " + s, x.left(p, s), m.left(p, s));
            case "got" -> { int d = day(); due("got " + s + " " + d, x.got(s, d), m.got(s, d)); }
            case "falsely" -> { boolean is = random.nextInt(3) == 0; due("falsely " + h + " " + is, n(x.falsely(h, is)), n(m.falsely(h, is))); }
            case "several" -> {
                int t = number(m.things.size());
                if (Model.in(p, m.partings.size()) && random.nextInt(4) > 0) {
                    s = (int) Model.bits(m.partings.get(p).holders) & ~(random.nextInt(4) == 0 ? 1 << below(12) : 0);
                }
                due("several " + p + " " + s + " " + t + " " + seed, x.several(p, s, t, seed), m.several(p, s, t, seed));
            }
            case "better" -> due("better " + p, x.better(p), m.better(p));
            default -> ruleCall(name, k, h);
        }
    }

    private void ruleCall(String name, int k, int h) {
        int t = number(m.things.size());
        int d = day();
        int q = day();
        boolean b = random.nextBoolean();
        switch (name) {
            case "fault" -> due("fault", x.fault(), m.fault());
            case "rule" -> {
                if (random.nextInt(3) > 0) {
                    feedText(text(random.nextInt(5)));
                }
                due("rule", x.rule(), m.rule());
            }
            case "death" -> { int r = number(m.rules.size()); due("death " + h + " " + r, n(x.death(h, r)), n(m.death(h, r))); }
            case "seal" -> {
                int digest = number(1019);
                int to = number(b ? m.rules.size() : m.keys.size());
                due("seal " + digest + " " + to + " " + b, x.seal(digest, to, b), m.seal(digest, to, b));
            }
            case "say" -> due("say " + h + " " + t + " " + b, n(x.say(h, t, b)), n(m.say(h, t, b)));
            case "mourn" -> { int of = number(m.holders); due("mourn " + h + " " + of + " " + b, n(x.mourn(h, of, b)), n(m.mourn(h, of, b))); }
            case "ask" -> due("ask " + t, n(x.ask(t)), n(m.ask(t)));
            case "may" -> due("may " + t + " " + d + " " + q, x.may(t, d, q), m.may(t, d, q));
            case "dead" -> due("dead " + h + " " + d + " " + q, x.dead(h, d, q), m.dead(h, d, q));
            case "unseal" -> due("unseal " + t, x.unseal(t), m.unseal(t));
            default -> signCall(name, k, h, t, q);
        }
    }

    private void signCall(String name, int k, int h, int t, int q) {
        int g = number(m.signatures.size());
        int l = number(m.lent.size());
        int start = number(1019);
        switch (name) {
            case "sign" -> {
                if (!m.hands.isEmpty() && random.nextInt(4) > 0) {
                    Model.Hand some = m.hands.get(below(m.hands.size()));
                    h = some.holder();
                    k = some.key();
                }
                due("sign " + h + " " + k + " " + t + " " + start, x.sign(h, k, t, start), m.sign(h, k, t, start));
            }
            case "signed" -> { int w = number(5); due("signed " + g + " " + w, x.signed(g, w), m.signed(g, w)); }
            case "taken" -> {
                int r = number(2039);
                int s = number(1019);
                if (Model.in(g, m.signatures.size()) && random.nextInt(4) > 0) {
                    Model.Signature some = m.signatures.get(g);
                    t = some.thing();
                    k = some.key();
                    r = some.r();
                    s = some.s() + (random.nextInt(4) == 0 ? 1 : 0);
                }
                due("taken " + t + " " + k + " " + r + " " + s, x.taken(t, k, r, s), m.taken(t, k, r, s));
            }
            case "stands" -> due("stands " + g + " " + q, x.stands(g, q), m.stands(g, q));
            case "lend" -> {
                int to = m.now + below(4) - (random.nextInt(12) == 0 ? 1 : 0);
                int uses = random.nextInt(8) == 0 ? number(101) : 1 + below(3);
                int thing = random.nextBoolean() ? -1 : t;
                due("lend " + k + " " + h + " " + to + " " + uses + " " + thing, x.lend(k, h, to, uses, thing), m.lend(k, h, to, uses, thing));
            }
            case "use" -> due("use " + l + " " + t + " " + start, x.use(l, t, start), m.use(l, t, start));
            case "back" -> {
                if (random.nextInt(3) == 0) {
                    due("back " + l, n(x.back(l)), n(m.back(l)));
                }
            }
            case "fall" -> { int s = someHolders(); due("fall " + s, x.fall(s), m.fall(s)); }
            case "count" -> { int w = number(14); due("count " + w, x.count(w), m.count(w)); }
            default -> fallCall(name, k);
        }
    }

    private void fallCall(String name, int k) {
        int f = number(m.falls.size());
        int w = number(2);
        switch (name) {
            case "fallen" -> due("fallen " + f + " " + w, x.fallen(f, w), m.fallen(f, w));
            case "order" -> { int i = number(5); due("order " + f + " " + i, x.order(f, i), m.order(f, i)); }
            default -> {
                // The Model looks at all sets slowly, so only some of these are asked.
                if (m.holders > 6 && dearLeft-- <= 0) {
                    return;
                }
                switch (name) {
                    case "least" -> due("least " + k + " " + w, x.least(k, w), m.leastAnswer(k, w, 0));
                    case "ways" -> due("ways " + k + " " + w, x.ways(k, w), m.leastAnswer(k, w, 1));
                    case "first" -> due("first " + k + " " + w, x.first(k, w), m.leastAnswer(k, w, 2));
                    default -> throw new IllegalStateException(name);
                }
            }
        }
    }

    private static void compareFaults(Random random) {
        ModelTest texts = new ModelTest(random.nextLong());
        texts.m.holders = 12;
        for (int i = 0; i < 30000; i++) {
            String s = texts.garbled(texts.garbled(texts.text(random.nextInt(7))));
            s = s.substring(0, Math.min(160, s.length()));
            texts.x = i % 40 == 0 ? new LifeKeys() : texts.x;
            texts.log.clear();
            texts.log.add(s);
            texts.feedText(s);
            texts.due("fault", texts.x.fault(), texts.m.fault());
        }
    }

    public static void main(String[] args) {
        int runs = args.length > 0 ? Integer.parseInt(args[0]) : 1500;
        long first = args.length > 1 ? Long.parseLong(args[1]) : 1;
        try {
            for (int i = 0; i < runs; i++) {
                ModelTest test = new ModelTest(first + i);
                test.run(i % 3 == 0 ? 500 : 300);
            }
            compareFaults(new Random(7));
        } catch (IllegalStateException e) {
            System.out.println(e.getMessage());
            System.exit(1);
        }
        System.out.println(runs + " runs answered as the model does");
    }
}
