import java.math.BigInteger;
import java.util.ArrayList;
import java.util.List;
import java.util.Set;
import java.util.TreeSet;

/**
 * A second telling of the document, slow and with the whole Java library, to compare LifeKeys with.
 * It keeps whole histories and works everything out anew from them.
 */
final class Model {
    static final int NONE = -1;

    record Key(int secret, int sort, int root, int day) { }
    record Hand(int holder, int key, boolean given, int day) { }
    record Burn(int key, int from, int day) { }
    record Saying(int holder, int thing, int of, boolean yes, int day) { }
    record Death(int holder, int rule, int day) { }
    record Signature(int r, int s, int key, int thing, int day) { }

    static final class Wrap { int inner; int outer; int day; int cut = Integer.MAX_VALUE; }
    static final class Parting { int key; Set<Integer> holders; int day; int out = Integer.MAX_VALUE; List<Integer> a; int need() { return a.size(); } }
    static final class Thing { int digest; int to; boolean byRule; int asked = NONE; boolean opened; }
    static final class Lent { int key; int to; int uses; int thing; boolean back; }

    int now;
    int holders;
    String tape = "";
    final List<Key> keys = new ArrayList<>();
    final List<Integer> old = new ArrayList<>();
    final List<Hand> hands = new ArrayList<>();
    final List<Burn> burns = new ArrayList<>();
    final List<Wrap> wraps = new ArrayList<>();
    final List<Parting> partings = new ArrayList<>();
    final List<int[]> bench = new ArrayList<>();
    final List<String> rules = new ArrayList<>();
    final List<Death> deaths = new ArrayList<>();
    final List<Saying> sayings = new ArrayList<>();
    final List<Thing> things = new ArrayList<>();
    final List<Signature> signatures = new ArrayList<>();
    final List<Lent> lent = new ArrayList<>();
    final List<Set<Integer>> falls = new ArrayList<>();
    final Set<Integer> falseOnes = new TreeSet<>();

    // ---- arithmetic with big numbers ----

    static final BigInteger N = BigInteger.valueOf(1019);
    static final BigInteger P = BigInteger.valueOf(2039);

    static int pow(long base, BigInteger exponent) {
        return BigInteger.valueOf(base).modPow(exponent, P).intValue();
    }

    static int pow4(long exponent) {
        return pow(4, BigInteger.valueOf(exponent));
    }

    static long random(long y) {
        return y * 6364136223846793005L + 1442695040888963407L;
    }

    static int value(List<Integer> a, int x) {
        BigInteger sum = BigInteger.ZERO;
        for (int j = 0; j < a.size(); j++) {
            sum = sum.add(BigInteger.valueOf(a.get(j)).multiply(BigInteger.valueOf(x).pow(j)));
        }
        return sum.mod(N).intValue();
    }

    /** Lagrange's weight at 0, by a product of fractions. */
    static BigInteger weight(int i, Iterable<Integer> all) {
        BigInteger w = BigInteger.ONE;
        for (int k : all) {
            if (k != i) {
                w = w.multiply(BigInteger.valueOf(k + 1)).multiply(BigInteger.valueOf(k - i).modInverse(N)).mod(N);
            }
        }
        return w;
    }

    // ---- helpers ----

    static boolean in(int x, int size) {
        return x >= 0 && x < size;
    }

    /** null if these are no HOLDERS, or none at all. */
    Set<Integer> set(int bits) {
        Set<Integer> set = new TreeSet<>();
        for (int i = 0; i < 32; i++) {
            if ((bits >>> i & 1) == 1) {
                if (i >= holders) {
                    return null;
                }
                set.add(i);
            }
        }
        return set.isEmpty() ? null : set;
    }

    static long bits(Iterable<Integer> set) {
        long bits = 0;
        for (int k : set) {
            bits |= 1L << k;
        }
        return bits;
    }

    boolean has(int holder, int key, int day) {
        boolean has = false;
        for (Hand h : hands) {
            if (h.holder() == holder && h.key() == key && h.day() <= day) {
                has = h.given();
            }
        }
        return has;
    }

    Set<Integer> gets(Set<Integer> set, int day, Parting other, int otherNeed) {
        Set<Integer> got = new TreeSet<>();
        for (int k = 0; k < keys.size(); k++) {
            for (int h : set) {
                if (keys.get(k).day() <= day && has(h, k, day)) {
                    got.add(k);
                }
            }
        }
        for (Parting p : partings) {
            if (p.day <= day && day < p.out) {
                Set<Integer> both = new TreeSet<>(p.holders);
                both.retainAll(set);
                if (both.size() >= (p == other ? otherNeed : p.need())) {
                    got.add(p.key);
                }
            }
        }
        int before;
        do {
            before = got.size();
            for (int k = 0; k < keys.size(); k++) {
                if (keys.get(k).sort() == 2 && keys.get(k).day() <= day && got.contains(keys.get(k).root())) {
                    got.add(k);
                }
            }
            for (Wrap w : wraps) {
                if (w.day <= day && day < w.cut && got.contains(w.outer)) {
                    got.add(w.inner);
                }
            }
        } while (got.size() > before);
        return got;
    }

    Set<Integer> gets(Set<Integer> set, int day) {
        return gets(set, day, null, 0);
    }

    int burntFrom(int key, int q) {
        return burns.stream().filter(b -> b.key() == key && b.day() <= q).mapToInt(Burn::from).min().orElse(NONE);
    }

    boolean usable(int key) {
        int from = burntFrom(key, now);
        return !(from != NONE && from <= now) && old.get(key) == NONE;
    }

    Set<Integer> others(Set<Integer> set) {
        Set<Integer> all = new TreeSet<>();
        for (int i = 0; i < holders; i++) {
            if (!set.contains(i)) {
                all.add(i);
            }
        }
        return all;
    }

    // ---- the calls ----

    int days(int n) {
        if (n < 0 || n > 1000 || now + n > 2000) {
            return NONE;
        }
        return now += n;
    }

    int holder() {
        return holders == 12 ? NONE : holders++;
    }

    int addKey(int secret, int sort, int root) {
        if (keys.size() == 40) {
            return NONE;
        }
        keys.add(new Key(secret, sort, root, now));
        old.add(NONE);
        return keys.size() - 1;
    }

    int key(int secret, boolean root) {
        return secret < 1 || secret > 1018 ? NONE : addKey(secret, root ? 1 : 0, NONE);
    }

    int feed(int... numbers) {
        StringBuilder more = new StringBuilder();
        for (int n : numbers) {
            for (char c : new char[] {(char) (n >>> 24), (char) (n >>> 16 & 255), (char) (n >>> 8 & 255), (char) (n & 255)}) {
                if (c != 0) {
                    more.append(c);
                }
            }
        }
        if (tape.length() + more.length() > 160) {
            return NONE;
        }
        tape += more;
        return tape.length();
    }

    boolean end(int n) {
        if (n < 0 || n > tape.length()) {
            return false;
        }
        tape = tape.substring(0, n);
        return true;
    }

    int make(int root) {
        if (!in(root, keys.size()) || keys.get(root).sort() != 1 || tape.isEmpty() || tape.length() > 40) {
            return NONE;
        }
        BigInteger h = BigInteger.ZERO;
        for (char c : tape.toCharArray()) {
            h = h.multiply(BigInteger.valueOf(131)).add(BigInteger.valueOf(c));
        }
        int secret = (37 * keys.get(root).secret() + h.mod(N).intValue()) % 1018 + 1;
        int made = addKey(secret, 2, root);
        if (made != NONE) {
            tape = "";
        }
        return made;
    }

    /** -7 stands for the exception. */
    int open(int key) {
        return in(key, keys.size()) ? pow4(keys.get(key).secret()) : -7;
    }

    int told(int key, int what) {
        if (!in(key, keys.size())) {
            return NONE;
        }
        int last = NONE;
        for (int p = 0; p < partings.size(); p++) {
            if (partings.get(p).key == key && now < partings.get(p).out) {
                last = p;
            }
        }
        int[] all = {keys.get(key).sort(), keys.get(key).root(), burntFrom(key, now), old.get(key), last};
        return in(what, 5) ? all[what] : NONE;
    }

    boolean give(int holder, int key) {
        if (!in(holder, holders) || !in(key, keys.size()) || has(holder, key, now)) {
            return false;
        }
        return hands.add(new Hand(holder, key, true, now));
    }

    boolean take(int holder, int key) {
        if (!in(holder, holders) || !in(key, keys.size()) || !has(holder, key, now)) {
            return false;
        }
        return hands.add(new Hand(holder, key, false, now));
    }

    int wrap(int inner, int outer) {
        if (!in(inner, keys.size()) || !in(outer, keys.size()) || inner == outer || wraps.size() == 40) {
            return NONE;
        }
        Wrap w = new Wrap();
        w.inner = inner;
        w.outer = outer;
        w.day = now;
        wraps.add(w);
        return wraps.size() - 1;
    }

    boolean cut(int wrap) {
        if (!in(wrap, wraps.size()) || wraps.get(wrap).cut <= now) {
            return false;
        }
        wraps.get(wrap).cut = now;
        return true;
    }

    int addParting(int key, Set<Integer> holders, int need, long seed) {
        Parting p = new Parting();
        p.key = key;
        p.holders = holders;
        p.day = now;
        p.a = new ArrayList<>(List.of(keys.get(key).secret()));
        for (long y = random(seed); p.a.size() < need; y = random(y)) {
            p.a.add((int) ((y >>> 33) % 1019));
        }
        partings.add(p);
        return partings.size() - 1;
    }

    int part(int key, int bits, int need, long seed) {
        Set<Integer> holders = set(bits);
        if (!in(key, keys.size()) || holders == null || need < 1 || need > holders.size() || partings.size() == 40) {
            return NONE;
        }
        return addParting(key, holders, need, seed);
    }

    boolean inForce(int parting) {
        return in(parting, partings.size()) && now < partings.get(parting).out;
    }

    int again(int parting, long seed) {
        if (!inForce(parting) || partings.size() == 40) {
            return NONE;
        }
        Parting p = partings.get(parting);
        p.out = now;
        return addParting(p.key, p.holders, p.need(), seed);
    }

    int piece(int parting, int holder) {
        if (!in(parting, partings.size()) || !partings.get(parting).holders.contains(holder)) {
            return NONE;
        }
        return value(partings.get(parting).a, holder + 1);
    }

    int checks(int parting, int j) {
        if (!in(parting, partings.size()) || !in(j, partings.get(parting).need())) {
            return NONE;
        }
        return pow4(partings.get(parting).a.get(j));
    }

    int fits(int parting, int holder, int number) {
        int part = piece(parting, holder);
        return part == NONE || !in(number, 1019) ? NONE : part == number ? 1 : 0;
    }

    int lay(int holder, int number) {
        if (!in(holder, holders) || !in(number, 1019) || bench.stream().anyMatch(b -> b[0] == holder)) {
            return NONE;
        }
        bench.add(new int[] {holder, number});
        return bench.size();
    }

    /** By Newton's divided differences, not by weights. */
    int join() {
        if (bench.isEmpty()) {
            return NONE;
        }
        int n = bench.size();
        BigInteger[] d = new BigInteger[n];
        for (int i = 0; i < n; i++) {
            d[i] = BigInteger.valueOf(bench.get(i)[1]);
        }
        for (int level = 1; level < n; level++) {
            for (int i = n - 1; i >= level; i--) {
                BigInteger gap = BigInteger.valueOf(bench.get(i)[0] - bench.get(i - level)[0]);
                d[i] = d[i].subtract(d[i - 1]).multiply(gap.modInverse(N)).mod(N);
            }
        }
        BigInteger at0 = d[n - 1];
        for (int i = n - 2; i >= 0; i--) {
            at0 = at0.multiply(BigInteger.valueOf(-(bench.get(i)[0] + 1))).add(d[i]).mod(N);
        }
        bench.clear();
        return at0.intValue();
    }

    int left(int parting, int bits) {
        Set<Integer> set = set(bits);
        if (!in(parting, partings.size()) || set == null) {
            return NONE;
        }
        set.retainAll(partings.get(parting).holders);
        return Math.max(0, partings.get(parting).need() - set.size());
    }

    long got(int bits, int day) {
        Set<Integer> set = set(bits);
        return set == null || day < 0 || day > now ? -1 : bits(gets(set, day));
    }

    /** Sign by sign with a stack of what stands open, not by going down the forms. */
    static int faultOf(String text) {
        List<Character> open = new ArrayList<>();
        int digits = 0;      // of the number being read
        int number = 0;
        char before = 'u';   // u: a UNIT is due; a letter, or # (a number for { ): its number; f: one is finished; {: due
        for (int i = 0; i <= text.length(); i++) {
            char c = i < text.length() ? text.charAt(i) : 0;
            boolean digit = c >= '0' && c <= '9';
            if (digits > 0 && !digit) {
                if (before != '#' && before != 'w' && number > 11) {
                    return i - 1;
                }
                before = before == '#' ? '{' : 'f';
                digits = 0;
            }
            if (before == 'f') {
                while (!open.isEmpty() && open.get(open.size() - 1) == '!') {
                    open.remove(open.size() - 1);
                }
            }
            char innermost = open.isEmpty() ? 0 : open.get(open.size() - 1);
            if (i == text.length()) {
                return before == 'f' && open.isEmpty() ? NONE : i;
            } else if (c == ' ') {
                continue;
            } else if (digit && (before == 'u' || "hndw#".indexOf(before) >= 0)) {
                if (digits == 3) {
                    return i;
                }
                number = digits == 0 ? c - '0' : number * 10 + c - '0';
                before = before == 'u' ? '#' : before;
                digits++;
            } else if (before == 'u' && "hndw".indexOf(c) >= 0) {
                before = c;
            } else if (before == 'u' && (c == '!' || c == '(') || before == '{' && c == '{') {
                if (open.size() == 8) {
                    return i;
                }
                open.add(c);
                before = 'u';
            } else if (before == 'f' && (c == '&' || c == '|' || c == ',' && innermost == '{')) {
                before = 'u';
            } else if (before == 'f' && (c == ')' && innermost == '(' || c == '}' && innermost == '{')) {
                open.remove(open.size() - 1);
            } else {
                return i;
            }
        }
        throw new IllegalStateException();
    }

    int fault() {
        return faultOf(tape);
    }

    int rule() {
        if (fault() != NONE || rules.size() == 20) {
            return NONE;
        }
        rules.add(tape.replace(" ", ""));
        tape = "";
        return rules.size() - 1;
    }

    boolean death(int holder, int rule) {
        if (!in(holder, holders) || !in(rule, rules.size()) || deaths.size() == 40) {
            return false;
        }
        return deaths.add(new Death(holder, rule, now));
    }

    int seal(int digest, int to, boolean byRule) {
        if (!in(digest, 1019) || !in(to, byRule ? rules.size() : keys.size()) || things.size() == 40) {
            return NONE;
        }
        Thing t = new Thing();
        t.digest = digest;
        t.to = to;
        t.byRule = byRule;
        things.add(t);
        return things.size() - 1;
    }

    boolean say(int holder, int thing, boolean yes) {
        if (!in(holder, holders) || !in(thing, things.size()) || sayings.size() == 200) {
            return false;
        }
        return sayings.add(new Saying(holder, thing, NONE, yes, now));
    }

    boolean mourn(int holder, int of, boolean yes) {
        if (!in(holder, holders) || !in(of, holders) || holder == of || sayings.size() == 200) {
            return false;
        }
        return sayings.add(new Saying(holder, NONE, of, yes, now));
    }

    boolean ask(int thing) {
        if (!in(thing, things.size()) || things.get(thing).asked != NONE) {
            return false;
        }
        things.get(thing).asked = now;
        return true;
    }

    /** The pieces of a text without blanks between signs that stand in no ( ) or { }. */
    static List<String> split(String text, char sign) {
        List<String> pieces = new ArrayList<>();
        int depth = 0;
        int start = 0;
        for (int i = 0; i < text.length(); i++) {
            char c = text.charAt(i);
            depth += c == '(' || c == '{' ? 1 : c == ')' || c == '}' ? -1 : 0;
            if (c == sign && depth == 0) {
                pieces.add(text.substring(start, i));
                start = i + 1;
            }
        }
        pieces.add(text.substring(start));
        return pieces;
    }

    boolean holds(String text, int thing, int of, int day, int q) {
        if (split(text, '|').size() > 1) {
            return split(text, '|').stream().anyMatch(x -> holds(x, thing, of, day, q));
        }
        if (split(text, '&').size() > 1) {
            return split(text, '&').stream().allMatch(x -> holds(x, thing, of, day, q));
        }
        String rest = text.substring(1);
        switch (text.charAt(0)) {
            case '!':
                return !holds(rest, thing, of, day, q);
            case '(':
                return holds(rest.substring(0, rest.length() - 1), thing, of, day, q);
            case 'h':
                return lastWord(Integer.parseInt(rest), thing, of, day, q) == 1;
            case 'n':
                return lastWord(Integer.parseInt(rest), thing, of, day, q) == 0;
            case 'd':
                return of == NONE && isDead(Integer.parseInt(rest), day, q);
            case 'w':
                return waits(Integer.parseInt(rest), thing, of, day, q);
            default:
                int brace = text.indexOf('{');
                long holding = split(text.substring(brace + 1, text.length() - 1), ',').stream()
                    .filter(x -> holds(x, thing, of, day, q)).count();
                return holding >= Integer.parseInt(text.substring(0, brace));
        }
    }

    int lastWord(int holder, int thing, int of, int day, int q) {
        int last = NONE;
        for (Saying s : sayings) {
            if (s.holder() == holder && s.thing() == thing && s.of() == of && s.day() <= day && s.day() <= q) {
                last = s.yes() ? 1 : 0;
            }
        }
        return last;
    }

    boolean waits(int days, int thing, int of, int day, int q) {
        int since = NONE;
        if (of == NONE) {
            since = things.get(thing).asked;
        } else {
            since = sayings.stream().filter(s -> s.of() == of && s.yes()).mapToInt(Saying::day).min().orElse(NONE);
        }
        return since != NONE && since <= day && since <= q && day - since >= days;
    }

    boolean isDead(int holder, int day, int q) {
        int rule = NONE;
        for (Death d : deaths) {
            if (d.holder() == holder && d.day() <= q) {
                rule = d.rule();
            }
        }
        return rule != NONE && holds(rules.get(rule), NONE, holder, day, q);
    }

    boolean days(int day, int q) {
        return day >= 0 && day <= 2000 && q >= 0 && q <= now;
    }

    int may(int thing, int day, int q) {
        if (!in(thing, things.size()) || !things.get(thing).byRule || !days(day, q)) {
            return NONE;
        }
        return holds(rules.get(things.get(thing).to), thing, NONE, day, q) ? 1 : 0;
    }

    int dead(int holder, int day, int q) {
        return !in(holder, holders) || !days(day, q) ? NONE : isDead(holder, day, q) ? 1 : 0;
    }

    int unseal(int thing) {
        int holding = may(thing, now, now);
        if (holding == NONE) {
            return NONE;
        }
        if (things.get(thing).opened) {
            return 2;
        }
        things.get(thing).opened = holding == 1;
        return holding;
    }

    int challenge(int r, int thing) {
        return (r + 7 * things.get(thing).digest) % 1019;
    }

    int addSignature(int key, int thing, int t) {
        int r = pow4(t);
        int s = (t + challenge(r, thing) * keys.get(key).secret()) % 1019;
        signatures.add(new Signature(r, s, key, thing, now));
        return signatures.size() - 1;
    }

    int sign(int holder, int key, int thing, int t) {
        if (!in(holder, holders) || !in(key, keys.size()) || !in(thing, things.size()) || t < 1 || t > 1018) {
            return NONE;
        }
        if (!gets(Set.of(holder), now).contains(key) || !usable(key) || signatures.size() == 80) {
            return NONE;
        }
        return addSignature(key, thing, t);
    }

    boolean falsely(int holder, boolean is) {
        return in(holder, holders) && (is ? falseOnes.add(holder) : falseOnes.remove(holder));
    }

    int several(int parting, int bits, int thing, long seed) {
        Set<Integer> set = set(bits);
        if (!inForce(parting) || set == null || !in(thing, things.size())) {
            return NONE;
        }
        Parting p = partings.get(parting);
        if (!p.holders.containsAll(set) || set.size() < p.need() || !usable(p.key) || signatures.size() == 80) {
            return NONE;
        }
        int[] t = new int[12];
        long y = seed;
        long sumOfStarts = 0;
        for (int i : set) {
            y = random(y);
            t[i] = (int) ((y >>> 33) % 1018) + 1;
            sumOfStarts += t[i];
        }
        int r = pow4(sumOfStarts);
        BigInteger c = BigInteger.valueOf(challenge(r, thing));
        BigInteger s = BigInteger.ZERO;
        for (int i : set) {
            BigInteger factor = c.multiply(weight(i, set));
            int part = piece(parting, i);
            BigInteger given = factor.multiply(BigInteger.valueOf(part + (falseOnes.contains(i) ? 1 : 0))).add(BigInteger.valueOf(t[i]));
            int due = pow4(t[i]) * pow(pow4(part), factor) % 2039;
            if (pow(4, given) != due) {
                return -2 - i;
            }
            s = s.add(given);
        }
        signatures.add(new Signature(r, s.mod(N).intValue(), p.key, thing, now));
        return signatures.size() - 1;
    }

    int signed(int signature, int what) {
        if (!in(signature, signatures.size())) {
            return NONE;
        }
        Signature s = signatures.get(signature);
        int[] all = {s.r(), s.s(), s.key(), s.thing(), s.day()};
        return in(what, 5) ? all[what] : NONE;
    }

    int taken(int thing, int key, int r, int s) {
        if (!in(thing, things.size()) || !in(key, keys.size()) || r < 1 || r > 2038 || !in(s, 1019)) {
            return NONE;
        }
        int c = challenge(r, thing);
        return pow4(s) == r * pow(open(key), BigInteger.valueOf(c)) % 2039 ? 1 : 0;
    }

    boolean burn(int key, int day) {
        return in(key, keys.size()) && in(day, 2001) && burns.size() < 60 && burns.add(new Burn(key, day, now));
    }

    boolean old(int key) {
        if (!in(key, keys.size()) || old.get(key) != NONE) {
            return false;
        }
        old.set(key, now);
        return true;
    }

    int stands(int signature, int q) {
        if (!in(signature, signatures.size()) || q < 0 || q > now || signatures.get(signature).day() > q) {
            return NONE;
        }
        Signature s = signatures.get(signature);
        boolean touched = burns.stream().anyMatch(b -> b.key() == s.key() && b.day() <= q && b.from() <= s.day());
        boolean knownThen = burns.stream().anyMatch(b -> b.key() == s.key() && b.day() <= s.day() && b.from() <= s.day());
        return !touched ? 1 : knownThen ? 3 : 2;
    }

    int lend(int key, int holder, int to, int uses, int thing) {
        if (!in(key, keys.size()) || !in(holder, holders) || to < now || to > 2000 || uses < 1 || uses > 100) {
            return NONE;
        }
        if (thing != NONE && !in(thing, things.size()) || lent.size() == 40) {
            return NONE;
        }
        Lent l = new Lent();
        l.key = key;
        l.to = to;
        l.uses = uses;
        l.thing = thing;
        lent.add(l);
        return lent.size() - 1;
    }

    int use(int number, int thing, int t) {
        if (!in(number, lent.size()) || !in(thing, things.size()) || t < 1 || t > 1018 || signatures.size() == 80) {
            return NONE;
        }
        Lent l = lent.get(number);
        if (l.back || now > l.to || l.uses == 0 || l.thing != NONE && l.thing != thing || !usable(l.key)) {
            return NONE;
        }
        l.uses--;
        return addSignature(l.key, thing, t);
    }

    boolean back(int number) {
        if (!in(number, lent.size()) || lent.get(number).back) {
            return false;
        }
        return lent.get(number).back = true;
    }

    int fall(int bits) {
        Set<Integer> set = set(bits);
        if (set == null || falls.size() == 20) {
            return NONE;
        }
        falls.add(set);
        return falls.size() - 1;
    }

    long fallen(int fall, int what) {
        if (!in(fall, falls.size()) || !in(what, 2)) {
            return -1;
        }
        Set<Integer> bare = gets(falls.get(fall), now);
        Set<Integer> lost = new TreeSet<>();
        for (int k = 0; k < keys.size(); k++) {
            lost.add(k);
        }
        lost.removeAll(gets(others(falls.get(fall)), now));
        return bits(what == 0 ? lost : bare);
    }

    /** All sets of so many of the HOLDERS from one on, those with lower HOLDERS first. */
    void sets(int from, int size, List<Integer> begun, List<Set<Integer>> found) {
        if (size == 0) {
            found.add(new TreeSet<>(begun));
            return;
        }
        for (int h = from; h < holders; h++) {
            begun.add(h);
            sets(h + 1, size - 1, begun, found);
            begun.remove(begun.size() - 1);
        }
    }

    List<Set<Integer>> leastSets(int key, int what) {
        List<Set<Integer>> least = new ArrayList<>();
        for (int size = 1; size <= holders && least.isEmpty(); size++) {
            List<Set<Integer>> all = new ArrayList<>();
            sets(0, size, new ArrayList<>(), all);
            for (Set<Integer> s : all) {
                if (what == 0 ? !gets(others(s), now).contains(key) : gets(s, now).contains(key)) {
                    least.add(s);
                }
            }
        }
        return least;
    }

    int leastAnswer(int key, int what, int which) {
        if (!in(key, keys.size()) || !in(what, 2)) {
            return NONE;
        }
        List<Set<Integer>> least = leastSets(key, what);
        if (least.isEmpty()) {
            return NONE;
        }
        return which == 0 ? least.get(0).size() : which == 1 ? least.size() : (int) bits(least.get(0));
    }

    int better(int parting) {
        if (!inForce(parting)) {
            return NONE;
        }
        Parting p = partings.get(parting);
        int best = NONE;
        for (int need = 1; need <= p.holders.size(); need++) {
            boolean good = true;
            for (Set<Integer> f : falls) {
                good &= gets(others(f), now, p, need).contains(p.key) && !gets(f, now, p, need).contains(p.key);
            }
            if (good && (best == NONE || Math.abs(need - p.need()) < Math.abs(best - p.need()))) {
                best = need;
            }
        }
        return best;
    }

    int order(int fall, int i) {
        if (!in(fall, falls.size())) {
            return NONE;
        }
        Set<Integer> bare = gets(falls.get(fall), now);
        List<Integer> told = new ArrayList<>();
        boolean more = true;
        while (more) {
            more = false;
            for (int k : bare) {
                Set<Integer> before = new TreeSet<>();
                if (keys.get(k).sort() == 2) {
                    before.add(keys.get(k).root());
                }
                for (Wrap w : wraps) {
                    if (w.inner == k && now < w.cut) {
                        before.add(w.outer);
                    }
                }
                before.retainAll(bare);
                if (!told.contains(k) && told.containsAll(before)) {
                    told.add(k);
                    more = true;
                    break;
                }
            }
        }
        return in(i, told.size()) ? told.get(i) : NONE;
    }

    int count(int what) {
        long[] all = {now, holders, keys.size(), partings.size(), wraps.stream().filter(w -> w.cut > now).count(),
            rules.size(), things.size(), sayings.size(), signatures.size(), lent.stream().filter(l -> !l.back).count(),
            falls.size(), tape.length(), bench.size(), things.stream().filter(t -> t.opened).count()};
        return in(what, all.length) ? (int) all[what] : NONE;
    }
}
