import java.util.NoSuchElementException;

/**
 * A cupboard of keys for a whole life: keys made, given, wrapped and parted; things sealed to keys
 * or to rules; signatures; keys lent; and what falls of holders would lose or lay bare.
 *
 * <p>What is refused answers as the document tells and changes nothing. All rows are made in the
 * constructor, since all calls of a run live in one room: no call makes an object.
 */
public final class LifeKeys {
    public static final int NONE = -1;

    private static final int MOST_HOLDERS = 12;
    private static final int MOST_FALLS = 20;
    private static final int MOST_CALLS = 512;
    private static final int MOST_DAYS_AT_ONCE = 1000;
    private static final int LAST_DAY = 2000;

    private int now;
    private int holderCount;
    private int falseHolders;
    private int benchHolders;
    private final int[] bench;
    private int fallCount;
    private final int[] falls;
    private final Tape tape;
    private final Keys keys;
    private final Ties ties;
    private final Partings partings;
    private final Rules rules;
    private final Sayings sayings;
    private final Things things;
    private final Signatures signatures;
    private final Loans loans;
    private final Reach reach;

    public LifeKeys() {
        bench = new int[MOST_HOLDERS];
        falls = new int[MOST_FALLS];
        tape = new Tape();
        keys = new Keys();
        ties = new Ties();
        partings = new Partings();
        rules = new Rules();
        sayings = new Sayings();
        things = new Things();
        signatures = new Signatures();
        loans = new Loans();
        reach = new Reach();
    }

    // ---- days, holders, keys and the tape ----

    public int days(int n) {
        if (n < 0 || n > MOST_DAYS_AT_ONCE || now + n > LAST_DAY) {
            return NONE;
        }
        now += n;
        return now;
    }

    public int holder() {
        if (holderCount >= MOST_HOLDERS) {
            return NONE;
        }
        holderCount++;
        return holderCount - 1;
    }

    public int key(int secret, boolean root) {
        if (!Field.isSecret(secret)) {
            return NONE;
        }
        return keys.add(secret, root ? Keys.ROOT : Keys.PLAIN, NONE, now);
    }

    public int feed(int a, int b, int c, int d, int e) {
        int more = Tape.bytesIn(a) + Tape.bytesIn(b) + Tape.bytesIn(c) + Tape.bytesIn(d) + Tape.bytesIn(e);
        if (tape.length + more > Tape.MOST) {
            return NONE;
        }
        tape.append(a);
        tape.append(b);
        tape.append(c);
        tape.append(d);
        tape.append(e);
        return tape.length;
    }

    public boolean end(int n) {
        if (n < 0 || n > tape.length) {
            return false;
        }
        tape.length = n;
        return true;
    }

    public int make(int root) {
        if (!keys.knows(root) || keys.sort[root] != Keys.ROOT || !tape.isName()) {
            return NONE;
        }
        int secret = Keys.madeSecret(keys.secret[root], tape.nameNumber());
        int made = keys.add(secret, Keys.MADE, root, now);
        if (made != NONE) {
            tape.length = 0;
        }
        return made;
    }

    public int open(int key) throws NoSuchElementException {
        if (!keys.knows(key)) {
            throw new NoSuchElementException("no such key");
        }
        return keys.publicOf(key);
    }

    public int told(int key, int what) {
        if (!keys.knows(key)) {
            return NONE;
        }
        switch (what) {
            case 0:
                return keys.sort[key];
            case 1:
                return keys.root[key];
            case 2:
                return keys.burntFrom(key, now);
            case 3:
                return keys.oldSince[key];
            case 4:
                return partings.lastInForce(key, now);
            default:
                return NONE;
        }
    }

    // ---- who has keys, and what lies in what ----

    public boolean give(int holder, int key) {
        if (!isHolder(holder) || !keys.knows(key) || ties.hasNow(holder, key)) {
            return false;
        }
        return ties.turn(holder, key, now);
    }

    public boolean take(int holder, int key) {
        if (!isHolder(holder) || !keys.knows(key) || !ties.hasNow(holder, key)) {
            return false;
        }
        return ties.turn(holder, key, now);
    }

    public int wrap(int inner, int outer) {
        if (!keys.knows(inner) || !keys.knows(outer) || inner == outer) {
            return NONE;
        }
        return ties.addWrap(inner, outer, now);
    }

    public boolean cut(int wrap) {
        return ties.cutWrap(wrap, now);
    }

    // ---- partings, and parts told by hand ----

    public int part(int key, int holders, int need, long seed) {
        if (!keys.knows(key) || !isSet(holders) || need < 1 || need > Integer.bitCount(holders)) {
            return NONE;
        }
        int made = partings.add(key, holders, need, now);
        if (made != NONE) {
            partings.drawCurve(made, keys.secret[key], seed);
        }
        return made;
    }

    public int again(int parting, long seed) {
        if (!partings.inForce(parting, now)) {
            return NONE;
        }
        int key = partings.key[parting];
        int made = partings.add(key, partings.set[parting], partings.need[parting], now);
        if (made != NONE) {
            partings.out[parting] = now;
            partings.drawCurve(made, keys.secret[key], seed);
        }
        return made;
    }

    public int piece(int parting, int holder) {
        return partings.isAmong(parting, holder) ? partings.partOf(parting, holder) : NONE;
    }

    public int checks(int parting, int j) {
        if (!partings.knows(parting) || j < 0 || j >= partings.need[parting]) {
            return NONE;
        }
        return partings.checkOf(parting, j);
    }

    public int fits(int parting, int holder, int number) {
        if (!partings.isAmong(parting, holder) || !Field.isNumber(number)) {
            return NONE;
        }
        return Field.powerOf4(number) == partings.checkedPart(parting, holder) ? 1 : 0;
    }

    public int lay(int holder, int number) {
        if (!isHolder(holder) || !Field.isNumber(number) || hasBit(benchHolders, holder)) {
            return NONE;
        }
        bench[holder] = number;
        benchHolders |= 1 << holder;
        return Integer.bitCount(benchHolders);
    }

    public int join() {
        if (benchHolders == 0) {
            return NONE;
        }
        int joined = 0;
        for (int i = 0; i < MOST_HOLDERS; i++) {
            if (hasBit(benchHolders, i)) {
                joined = Field.sum(joined, Field.times(bench[i], Field.weight(i, benchHolders)));
            }
        }
        benchHolders = 0;
        return joined;
    }

    public int left(int parting, int holders) {
        if (!partings.knows(parting) || !isSet(holders)) {
            return NONE;
        }
        return Math.max(0, partings.need[parting] - Integer.bitCount(holders & partings.set[parting]));
    }

    public long got(int holders, int day) {
        if (!isSet(holders) || !isPast(day)) {
            return NONE;
        }
        settleReach(day);
        return reach.gets(holders);
    }

    // ---- rules, sayings, things ----

    public int fault() {
        return rules.faultOf(tape.bytes, tape.length);
    }

    public int rule() {
        if (rules.faultOf(tape.bytes, tape.length) != NONE) {
            return NONE;
        }
        int made = rules.keepDraft();
        if (made != NONE) {
            tape.length = 0;
        }
        return made;
    }

    public boolean death(int holder, int rule) {
        if (!isHolder(holder) || !rules.knows(rule)) {
            return false;
        }
        return sayings.addRuleOfDeath(holder, rule, now);
    }

    public int seal(int digest, int to, boolean byRule) {
        boolean known = byRule ? rules.knows(to) : keys.knows(to);
        if (!known || !Field.isNumber(digest)) {
            return NONE;
        }
        return things.add(digest, to, byRule);
    }

    public boolean say(int holder, int thing, boolean yes) {
        if (!isHolder(holder) || !things.knows(thing)) {
            return false;
        }
        return sayings.add(holder, thing, yes, now);
    }

    public boolean mourn(int holder, int of, boolean yes) {
        if (!isHolder(holder) || !isHolder(of) || holder == of) {
            return false;
        }
        return sayings.add(holder, Sayings.deathOf(of), yes, now);
    }

    public boolean ask(int thing) {
        if (!things.knows(thing) || things.asked[thing] != NONE) {
            return false;
        }
        things.asked[thing] = now;
        return true;
    }

    public int may(int thing, int day, int q) {
        if (!things.isByRule(thing) || !isDay(day) || !isPast(q)) {
            return NONE;
        }
        return ruleHolds(thing, day, q) ? 1 : 0;
    }

    public int dead(int holder, int day, int q) {
        if (!isHolder(holder) || !isDay(day) || !isPast(q)) {
            return NONE;
        }
        return isDead(holder, day, q) ? 1 : 0;
    }

    public int unseal(int thing) {
        if (!things.isByRule(thing)) {
            return NONE;
        }
        if (things.opened[thing]) {
            return 2;
        }
        if (!ruleHolds(thing, now, now)) {
            return 0;
        }
        things.opened[thing] = true;
        return 1;
    }

    // ---- signatures, burnt and old keys ----

    public int sign(int holder, int key, int thing, int t) {
        if (!isHolder(holder) || !keys.knows(key) || !things.knows(thing) || !Field.isSecret(t)) {
            return NONE;
        }
        if (!keys.maySign(key, now) || !getsNow(holder, key)) {
            return NONE;
        }
        return signAlone(key, thing, t);
    }

    public boolean falsely(int holder, boolean is) {
        if (!isHolder(holder) || hasBit(falseHolders, holder) == is) {
            return false;
        }
        falseHolders ^= 1 << holder;
        return true;
    }

    public int several(int parting, int holders, int thing, long seed) {
        if (!partings.inForce(parting, now) || !things.knows(thing) || !isSet(holders)) {
            return NONE;
        }
        boolean others = (holders & ~partings.set[parting]) != 0;
        if (others || Integer.bitCount(holders) < partings.need[parting]) {
            return NONE;
        }
        if (!keys.maySign(partings.key[parting], now) || signatures.isFull()) {
            return NONE;
        }
        return signTogether(parting, holders, thing, seed);
    }

    public int signed(int signature, int what) {
        if (!signatures.knows(signature)) {
            return NONE;
        }
        switch (what) {
            case 0:
                return signatures.r[signature];
            case 1:
                return signatures.s[signature];
            case 2:
                return signatures.key[signature];
            case 3:
                return signatures.thing[signature];
            case 4:
                return signatures.day[signature];
            default:
                return NONE;
        }
    }

    public int taken(int thing, int key, int r, int s) {
        if (!things.knows(thing) || !keys.knows(key) || !Field.isPower(r) || !Field.isNumber(s)) {
            return NONE;
        }
        int c = Field.challenge(r, things.digest[thing]);
        return Field.powerOf4(s) == Field.product(r, Field.raise(keys.publicOf(key), c)) ? 1 : 0;
    }

    public boolean burn(int key, int day) {
        if (!keys.knows(key) || !isDay(day)) {
            return false;
        }
        return keys.addBurn(key, day, now);
    }

    public boolean old(int key) {
        if (!keys.knows(key) || keys.oldSince[key] != NONE) {
            return false;
        }
        keys.oldSince[key] = now;
        return true;
    }

    public int stands(int signature, int q) {
        if (!signatures.knows(signature) || !isPast(q) || signatures.day[signature] > q) {
            return NONE;
        }
        int key = signatures.key[signature];
        int made = signatures.day[signature];
        if (!keys.isBurnt(key, made, q)) {
            return 1;
        }
        return keys.isBurnt(key, made, made) ? 3 : 2;
    }

    // ---- keys lent ----

    public int lend(int key, int holder, int to, int uses, int thing) {
        if (!keys.knows(key) || !isHolder(holder) || to < now || to > LAST_DAY) {
            return NONE;
        }
        if (uses < 1 || uses > Loans.MOST_USES || (thing != NONE && !things.knows(thing))) {
            return NONE;
        }
        return loans.add(key, to, uses, thing);
    }

    public int use(int lent, int thing, int t) {
        if (!loans.serves(lent, thing, now) || !things.knows(thing) || !Field.isSecret(t)) {
            return NONE;
        }
        int key = loans.key[lent];
        if (!keys.maySign(key, now)) {
            return NONE;
        }
        int made = signAlone(key, thing, t);
        if (made != NONE) {
            loans.usesLeft[lent]--;
        }
        return made;
    }

    public boolean back(int lent) {
        if (!loans.knows(lent) || loans.isBack[lent]) {
            return false;
        }
        loans.isBack[lent] = true;
        return true;
    }

    // ---- falls of holders ----

    public int fall(int holders) {
        if (!isSet(holders) || fallCount >= MOST_FALLS) {
            return NONE;
        }
        falls[fallCount] = holders;
        fallCount++;
        return fallCount - 1;
    }

    public long fallen(int fall, int what) {
        if (!isFall(fall) || what < 0 || what > 1) {
            return NONE;
        }
        settleReach(now);
        if (what == 1) {
            return reach.gets(falls[fall]);
        }
        return keys.all() & ~reach.gets(othersThan(falls[fall]));
    }

    public int least(int key, int what) {
        return searchLeast(key, what) ? reach.leastSize : NONE;
    }

    public int ways(int key, int what) {
        return searchLeast(key, what) ? reach.leastWays : NONE;
    }

    public int first(int key, int what) {
        return searchLeast(key, what) ? reach.leastFirst : NONE;
    }

    public int better(int parting) {
        if (!partings.inForce(parting, now)) {
            return NONE;
        }
        settleReach(now);
        int own = partings.need[parting];
        int most = Integer.bitCount(partings.set[parting]);
        for (int away = 0; away < MOST_HOLDERS; away++) {
            if (own - away >= 1 && outlastsFalls(parting, own - away)) {
                return own - away;
            }
            if (own + away <= most && outlastsFalls(parting, own + away)) {
                return own + away;
            }
        }
        return NONE;
    }

    public int order(int fall, int i) {
        if (!isFall(fall) || i < 0 || i >= Keys.MOST) {
            return NONE;
        }
        settleReach(now);
        long waiting = reach.gets(falls[fall]);
        int next = reach.lowestFree(waiting);
        for (int turn = 0; turn < i && next != NONE; turn++) {
            waiting &= ~(1L << next);
            next = reach.lowestFree(waiting);
        }
        return next;
    }

    public int count(int what) {
        switch (what) {
            case 0:
                return now;
            case 1:
                return holderCount;
            case 2:
                return keys.count;
            case 3:
                return partings.count;
            case 4:
                return ties.uncutWraps();
            case 5:
                return rules.count;
            case 6:
                return things.count;
            default:
                return countFurther(what);
        }
    }

    // ---- what the calls share ----

    private int countFurther(int what) {
        switch (what) {
            case 7:
                return sayings.count;
            case 8:
                return signatures.count;
            case 9:
                return loans.notBack();
            case 10:
                return fallCount;
            case 11:
                return tape.length;
            case 12:
                return Integer.bitCount(benchHolders);
            case 13:
                return things.openedOnes();
            default:
                return NONE;
        }
    }

    private boolean isHolder(int holder) {
        return holder >= 0 && holder < holderCount;
    }

    private int allHolders() {
        return (1 << holderCount) - 1;
    }

    private boolean isSet(int set) {
        return set >= 1 && set <= allHolders();
    }

    private int othersThan(int set) {
        return allHolders() & ~set;
    }

    private boolean isFall(int fall) {
        return fall >= 0 && fall < fallCount;
    }

    private boolean isPast(int day) {
        return day >= 0 && day <= now;
    }

    private static boolean isDay(int day) {
        return day >= 0 && day <= LAST_DAY;
    }

    private static boolean hasBit(int bits, int i) {
        return (bits >>> i & 1) != 0;
    }

    private static boolean hasKey(long bits, int key) {
        return (bits >>> key & 1L) != 0;
    }

    private boolean ruleHolds(int thing, int day, int q) {
        int upTo = Math.min(day, q);
        int deadOnes = 0;
        for (int i = 0; i < holderCount; i++) {
            if (isDead(i, day, q)) {
                deadOnes |= 1 << i;
            }
        }
        int asked = things.asked[thing];
        int waited = asked == NONE || asked > upTo ? NONE : day - asked;
        return rules.holds(things.to[thing], sayings.voices(thing, upTo), deadOnes, waited);
    }

    private boolean isDead(int holder, int day, int q) {
        int rule = sayings.ruleOfDeath(holder, q);
        if (rule == NONE) {
            return false;
        }
        int upTo = Math.min(day, q);
        int about = Sayings.deathOf(holder);
        int since = sayings.firstYes(about, upTo);
        int waited = since == NONE ? NONE : day - since;
        return rules.holds(rule, sayings.voices(about, upTo), 0, waited);
    }

    private void settleReach(int day) {
        reach.settle(day, keys, ties, partings);
    }

    private boolean getsNow(int holder, int key) {
        settleReach(now);
        return hasKey(reach.gets(1 << holder), key);
    }

    private int signAlone(int key, int thing, int t) {
        int r = Field.powerOf4(t);
        int c = Field.challenge(r, things.digest[thing]);
        int s = Field.sum(t, Field.times(c, keys.secret[key]));
        return signatures.add(r, s, key, thing, now);
    }

    private int signTogether(int parting, int set, int thing, long seed) {
        int r = signatures.drawStarts(set, seed);
        int c = Field.challenge(r, things.digest[thing]);
        int s = 0;
        for (int i = 0; i < MOST_HOLDERS; i++) {
            if (hasBit(set, i)) {
                int factor = Field.times(c, Field.weight(i, set));
                int given = givenBy(parting, i, factor);
                if (!agrees(parting, i, factor, given)) {
                    return -2 - i;
                }
                s = Field.sum(s, given);
            }
        }
        return signatures.add(r, s, partings.key[parting], thing, now);
    }

    private int givenBy(int parting, int holder, int factor) {
        int has = partings.partOf(parting, holder);
        if (hasBit(falseHolders, holder)) {
            has = Field.sum(has, 1);
        }
        return Field.sum(signatures.start[holder], Field.times(factor, has));
    }

    /** A FALSE one may agree all the same: with a factor of 0 its PART does not count. */
    private boolean agrees(int parting, int holder, int factor, int given) {
        int truePower = Field.powerOf4(partings.partOf(parting, holder));
        int due = Field.product(Field.powerOf4(signatures.start[holder]), Field.raise(truePower, factor));
        return Field.powerOf4(given) == due;
    }

    private boolean searchLeast(int key, int what) {
        if (!keys.knows(key) || what < 0 || what > 1) {
            return false;
        }
        settleReach(now);
        reach.searchLeast(key, what == 1, allHolders());
        return reach.leastWays > 0;
    }

    private boolean outlastsFalls(int parting, int need) {
        int key = partings.key[parting];
        reach.need[parting] = need;
        for (int i = 0; i < fallCount; i++) {
            boolean bare = hasKey(reach.gets(falls[i]), key);
            boolean kept = hasKey(reach.gets(othersThan(falls[i])), key);
            if (bare || !kept) {
                return false;
            }
        }
        return true;
    }

    /** Numbers of keys go modulo 1,019; powers of 4 go modulo 2,039, and come round after 1,019. */
    private static final class Field {
        private static final int SUMS = 1019;
        private static final int POWERS = 2039;
        private static final int MADE = 1018;

        static boolean isNumber(int n) {
            return n >= 0 && n < SUMS;
        }

        static boolean isSecret(int n) {
            return n >= 1 && n < SUMS;
        }

        static boolean isPower(int n) {
            return n >= 1 && n < POWERS;
        }

        static int sum(int a, int b) {
            return (a + b) % SUMS;
        }

        static int times(int a, int b) {
            return a * b % SUMS;
        }

        static int product(int a, int b) {
            return a * b % POWERS;
        }

        static int raise(int base, int exponent) {
            int result = 1;
            int square = base;
            for (int rest = exponent; rest > 0; rest >>= 1) {
                if ((rest & 1) != 0) {
                    result = product(result, square);
                }
                square = product(square, square);
            }
            return result;
        }

        static int powerOf4(int exponent) {
            return raise(4, exponent);
        }

        /** n to the 1,017, which is 1 by n, since 1,019 is prime. */
        static int inverse(int n) {
            int result = 1;
            int square = n;
            for (int rest = SUMS - 2; rest > 0; rest >>= 1) {
                if ((rest & 1) != 0) {
                    result = times(result, square);
                }
                square = times(square, square);
            }
            return result;
        }

        /** What the number of HOLDER i counts in the value at 0 of the curve through all of the set. */
        static int weight(int i, int set) {
            int above = 1;
            int below = 1;
            for (int k = 0; k < MOST_HOLDERS; k++) {
                if (k != i && hasBit(set, k)) {
                    above = times(above, k + 1);
                    below = times(below, Math.floorMod(k - i, SUMS));
                }
            }
            return times(above, inverse(below));
        }

        static int challenge(int r, int digest) {
            return (r + 7 * digest) % SUMS;
        }

        static long nextSeed(long y) {
            return y * 6364136223846793005L + 1442695040888963407L;
        }

        static int coefficient(long y) {
            return (int) ((y >>> 33) % SUMS);
        }

        static int start(long y) {
            return (int) ((y >>> 33) % MADE) + 1;
        }
    }

    /** The bytes that came last, for a name or a RULE. */
    private static final class Tape {
        private static final int MOST = 160;
        private static final int LONGEST_NAME = 40;

        private final int[] bytes = new int[MOST];
        private int length;

        static int bytesIn(int number) {
            int found = 0;
            for (int shift = 24; shift >= 0; shift -= 8) {
                if ((number >>> shift & 255) != 0) {
                    found++;
                }
            }
            return found;
        }

        void append(int number) {
            for (int shift = 24; shift >= 0; shift -= 8) {
                int one = number >>> shift & 255;
                if (one != 0 && length < MOST) {
                    bytes[length] = one;
                    length++;
                }
            }
        }

        boolean isName() {
            return length >= 1 && length <= LONGEST_NAME;
        }

        int nameNumber() {
            int h = 0;
            for (int i = 0; i < length; i++) {
                h = (131 * h + bytes[i]) % Field.SUMS;
            }
            return h;
        }
    }

    /** KEYS, and when they were told to be BURNT or OLD. */
    private static final class Keys {
        private static final int MOST = 40;
        private static final int MOST_BURNS = 60;
        private static final int PLAIN = 0;
        private static final int ROOT = 1;
        private static final int MADE = 2;

        private int count;
        private final int[] secret = new int[MOST];
        private final int[] sort = new int[MOST];
        private final int[] root = new int[MOST];
        private final int[] day = new int[MOST];
        private final int[] oldSince = new int[MOST];
        private int burns;
        private final int[] burnKey = new int[MOST_BURNS];
        private final int[] burnFrom = new int[MOST_BURNS];
        private final int[] burnTold = new int[MOST_BURNS];

        boolean knows(int key) {
            return key >= 0 && key < count;
        }

        int add(int newSecret, int newSort, int newRoot, int now) {
            if (count >= MOST) {
                return NONE;
            }
            secret[count] = newSecret;
            sort[count] = newSort;
            root[count] = newRoot;
            day[count] = now;
            oldSince[count] = NONE;
            count++;
            return count - 1;
        }

        static int madeSecret(int rootSecret, int nameNumber) {
            return (37 * rootSecret + nameNumber) % Field.MADE + 1;
        }

        long all() {
            return (1L << count) - 1;
        }

        int publicOf(int key) {
            return Field.powerOf4(secret[key]);
        }

        boolean addBurn(int key, int from, int now) {
            if (burns >= MOST_BURNS) {
                return false;
            }
            burnKey[burns] = key;
            burnFrom[burns] = from;
            burnTold[burns] = now;
            burns++;
            return true;
        }

        int burntFrom(int key, int q) {
            int from = NONE;
            for (int i = 0; i < burns; i++) {
                if (burnKey[i] == key && burnTold[i] <= q && (from == NONE || burnFrom[i] < from)) {
                    from = burnFrom[i];
                }
            }
            return from;
        }

        /** Whether, as known in q, the key was in others' hands on that day. */
        boolean isBurnt(int key, int onDay, int q) {
            int from = burntFrom(key, q);
            return from != NONE && from <= onDay;
        }

        boolean maySign(int key, int now) {
            return !isBurnt(key, now, now) && oldSince[key] == NONE;
        }
    }

    /** Who HAS which KEY, and which KEY lies in which, day by day. */
    private static final class Ties {
        private static final int MOST_WRAPS = 40;

        private final long[] heldNow = new long[MOST_HOLDERS];
        private int turns;
        private final int[] turnHolder = new int[MOST_CALLS];
        private final int[] turnKey = new int[MOST_CALLS];
        private final int[] turnDay = new int[MOST_CALLS];
        private int wraps;
        private final int[] inner = new int[MOST_WRAPS];
        private final int[] outer = new int[MOST_WRAPS];
        private final int[] wrapped = new int[MOST_WRAPS];
        private final int[] cutOn = new int[MOST_WRAPS];

        boolean hasNow(int holder, int key) {
            return hasKey(heldNow[holder], key);
        }

        /** Giving and taking away follow each other, so each is a turn of what was before. */
        boolean turn(int holder, int key, int now) {
            if (turns >= MOST_CALLS) {
                return false;
            }
            heldNow[holder] ^= 1L << key;
            turnHolder[turns] = holder;
            turnKey[turns] = key;
            turnDay[turns] = now;
            turns++;
            return true;
        }

        void heldOn(int day, long[] held) {
            for (int i = 0; i < MOST_HOLDERS && i < held.length; i++) {
                held[i] = 0;
            }
            for (int i = 0; i < turns && turnDay[i] <= day; i++) {
                if (turnHolder[i] < held.length) {
                    held[turnHolder[i]] ^= 1L << turnKey[i];
                }
            }
        }

        int addWrap(int newInner, int newOuter, int now) {
            if (wraps >= MOST_WRAPS) {
                return NONE;
            }
            inner[wraps] = newInner;
            outer[wraps] = newOuter;
            wrapped[wraps] = now;
            cutOn[wraps] = NONE;
            wraps++;
            return wraps - 1;
        }

        boolean cutWrap(int wrap, int now) {
            if (wrap < 0 || wrap >= wraps || cutOn[wrap] != NONE) {
                return false;
            }
            cutOn[wrap] = now;
            return true;
        }

        boolean isWrapOn(int wrap, int day) {
            return wrapped[wrap] <= day && (cutOn[wrap] == NONE || day < cutOn[wrap]);
        }

        int uncutWraps() {
            int found = 0;
            for (int i = 0; i < wraps; i++) {
                if (cutOn[i] == NONE) {
                    found++;
                }
            }
            return found;
        }
    }

    /** PARTINGS, each with its curve. */
    private static final class Partings {
        private static final int MOST = 40;

        private int count;
        private final int[] key = new int[MOST];
        private final int[] set = new int[MOST];
        private final int[] need = new int[MOST];
        private final int[] day = new int[MOST];
        private final int[] out = new int[MOST];
        private final int[][] curve = new int[MOST][MOST_HOLDERS];

        boolean knows(int parting) {
            return parting >= 0 && parting < count;
        }

        int add(int newKey, int newSet, int newNeed, int now) {
            if (count >= MOST) {
                return NONE;
            }
            key[count] = newKey;
            set[count] = newSet;
            need[count] = newNeed;
            day[count] = now;
            out[count] = NONE;
            count++;
            return count - 1;
        }

        void drawCurve(int parting, int secret, long seed) {
            curve[parting][0] = secret;
            long y = seed;
            for (int j = 1; j < need[parting]; j++) {
                y = Field.nextSeed(y);
                curve[parting][j] = Field.coefficient(y);
            }
        }

        boolean inForce(int parting, int onDay) {
            return knows(parting) && day[parting] <= onDay && (out[parting] == NONE || onDay < out[parting]);
        }

        int lastInForce(int ofKey, int onDay) {
            for (int i = count - 1; i >= 0; i--) {
                if (key[i] == ofKey && inForce(i, onDay)) {
                    return i;
                }
            }
            return NONE;
        }

        boolean isAmong(int parting, int holder) {
            return knows(parting) && holder >= 0 && holder < MOST_HOLDERS && hasBit(set[parting], holder);
        }

        int partOf(int parting, int holder) {
            int value = 0;
            for (int j = need[parting] - 1; j >= 0; j--) {
                value = Field.sum(Field.times(value, holder + 1), curve[parting][j]);
            }
            return value;
        }

        int checkOf(int parting, int j) {
            return Field.powerOf4(curve[parting][j]);
        }

        /** 4 to the PART of a HOLDER, made of the CHECKS alone. */
        int checkedPart(int parting, int holder) {
            int made = 1;
            int x = 1;
            for (int j = 0; j < need[parting]; j++) {
                made = Field.product(made, Field.raise(checkOf(parting, j), x));
                x = Field.times(x, holder + 1);
            }
            return made;
        }
    }

    /**
     * RULES. A text is read once: for its FAULT, and into words, in which what is joined comes before
     * what joins it; so telling later whether the RULE holds is one walk along the words.
     */
    private static final class Rules {
        private static final int MOST = 20;
        private static final int DEEPEST = 8;
        private static final int MOST_NUMBER = 999;
        private static final int NUMBERS = MOST_NUMBER + 1;
        private static final int SIGNS = 256;

        private int count;
        private final int[] words = new int[MOST * Tape.MOST];
        private final int[] lengths = new int[MOST];
        private final int[] draft = new int[Tape.MOST];
        private int drafted;
        private int[] text = draft;
        private int at;
        private int end;
        private int faultAt;
        private final boolean[] stack = new boolean[Tape.MOST];
        private int height;
        private int saidYes;
        private int saidNo;
        private int deadOnes;
        private int waited;

        boolean knows(int rule) {
            return rule >= 0 && rule < count;
        }

        int faultOf(int[] bytes, int length) {
            text = bytes;
            at = 0;
            end = Math.min(length, bytes.length);
            faultAt = NONE;
            drafted = 0;
            any(0);
            if (at < end) {
                stop(at);
            }
            return faultAt;
        }

        /** The text that was read last is a RULE from now on. */
        int keepDraft() {
            if (count >= MOST) {
                return NONE;
            }
            System.arraycopy(draft, 0, words, count * Tape.MOST, drafted);
            lengths[count] = drafted;
            count++;
            return count - 1;
        }

        private void any(int depth) {
            all(depth);
            for (int turn = 0; turn < Tape.MOST && passes('|'); turn++) {
                all(depth);
                write('|', 0);
            }
        }

        private void all(int depth) {
            unit(depth);
            for (int turn = 0; turn < Tape.MOST && passes('&'); turn++) {
                unit(depth);
                write('&', 0);
            }
        }

        private void unit(int depth) {
            skipBlanks();
            int sign = here();
            if (sign == '!') {
                if (enters(depth)) {
                    unit(depth + 1);
                    write('!', 0);
                }
            } else if (sign == '(') {
                if (enters(depth)) {
                    within(depth + 1);
                }
            } else if (isDigit(sign)) {
                atLeast(depth);
            } else {
                fact(sign);
            }
        }

        private void within(int depth) {
            any(depth);
            if (!passes(')')) {
                stop(at);
            }
        }

        private void atLeast(int depth) {
            int need = number(MOST_NUMBER);
            skipBlanks();
            if (here() != '{') {
                stop(at);
            } else if (enters(depth)) {
                any(depth + 1);
                int among = 1;
                for (int turn = 0; turn < Tape.MOST && passes(','); turn++) {
                    any(depth + 1);
                    among++;
                }
                if (!passes('}')) {
                    stop(at);
                }
                write('{', need + NUMBERS * among);
            }
        }

        private void fact(int sign) {
            boolean ofHolder = sign == 'h' || sign == 'n' || sign == 'd';
            if (ofHolder || sign == 'w') {
                at++;
                write(sign, number(ofHolder ? MOST_HOLDERS - 1 : MOST_NUMBER));
            } else {
                stop(at);
            }
        }

        private int number(int most) {
            skipBlanks();
            int value = 0;
            int digits = 0;
            while (digits < 3 && isDigit(here())) {
                value = 10 * value + here() - '0';
                at++;
                digits++;
            }
            if (digits == 0 || isDigit(here())) {
                stop(at);
            } else if (value > most) {
                stop(at - 1);
            }
            return value;
        }

        /** Goes past one of ( { ! unless it is a ninth within one another. */
        private boolean enters(int depth) {
            if (depth >= DEEPEST) {
                stop(at);
                return false;
            }
            at++;
            return true;
        }

        private boolean passes(int sign) {
            skipBlanks();
            if (here() != sign) {
                return false;
            }
            at++;
            return true;
        }

        private void skipBlanks() {
            while (at >= 0 && at < end && text[at] == ' ') {
                at++;
            }
        }

        /** 0, which is no byte of a text, at its end and behind a FAULT: so nothing is read on there. */
        private int here() {
            return faultAt == NONE && at >= 0 && at < end ? text[at] : 0;
        }

        private void stop(int place) {
            if (faultAt == NONE) {
                faultAt = place;
            }
        }

        private void write(int sign, int number) {
            if (faultAt == NONE && drafted < draft.length) {
                draft[drafted] = sign + SIGNS * number;
                drafted++;
            }
        }

        private static boolean isDigit(int sign) {
            return sign >= '0' && sign <= '9';
        }

        /** With bits of those who said yes (and 12 higher, no), of the dead, and days since the asking or NONE. */
        boolean holds(int rule, int voices, int dead, int days) {
            if (!knows(rule)) {
                return false;
            }
            saidYes = voices & Sayings.YES;
            saidNo = voices >>> MOST_HOLDERS;
            deadOnes = dead;
            waited = days;
            height = 0;
            int from = rule * Tape.MOST;
            for (int i = 0; i < lengths[rule]; i++) {
                weigh(words[from + i]);
            }
            return pop();
        }

        private void weigh(int word) {
            int number = word / SIGNS;
            switch (word % SIGNS) {
                case '!':
                    push(!pop());
                    break;
                case '&':
                    push(popHolding(2) == 2);
                    break;
                case '|':
                    push(popHolding(2) >= 1);
                    break;
                case '{':
                    push(popHolding(number / NUMBERS) >= number % NUMBERS);
                    break;
                case 'h':
                    push(hasBit(saidYes, number));
                    break;
                case 'n':
                    push(hasBit(saidNo, number));
                    break;
                case 'd':
                    push(hasBit(deadOnes, number));
                    break;
                default:
                    push(waited >= number);
                    break;
            }
        }

        private void push(boolean holding) {
            if (height < stack.length) {
                stack[height] = holding;
                height++;
            }
        }

        private boolean pop() {
            if (height <= 0) {
                return false;
            }
            height--;
            return stack[height];
        }

        private int popHolding(int among) {
            int holding = 0;
            for (int i = 0; i < among; i++) {
                if (pop()) {
                    holding++;
                }
            }
            return holding;
        }
    }

    /** What HOLDERS say of THINGS and of deaths, and the RULES of death. */
    private static final class Sayings {
        private static final int MOST = 200;
        private static final int MOST_DEATH_RULES = 40;
        private static final int YES = (1 << MOST_HOLDERS) - 1;

        private int count;
        private final int[] by = new int[MOST];
        private final int[] about = new int[MOST];
        private final boolean[] yes = new boolean[MOST];
        private final int[] day = new int[MOST];
        private int deathRules;
        private final int[] deathHolder = new int[MOST_DEATH_RULES];
        private final int[] deathRule = new int[MOST_DEATH_RULES];
        private final int[] deathDay = new int[MOST_DEATH_RULES];

        /** Deaths are counted behind the THINGS, so that one number tells what a SAYING is about. */
        static int deathOf(int holder) {
            return Things.MOST + holder;
        }

        boolean add(int holder, int of, boolean isYes, int now) {
            if (count >= MOST) {
                return false;
            }
            by[count] = holder;
            about[count] = of;
            yes[count] = isYes;
            day[count] = now;
            count++;
            return true;
        }

        boolean addRuleOfDeath(int holder, int rule, int now) {
            if (deathRules >= MOST_DEATH_RULES) {
                return false;
            }
            deathHolder[deathRules] = holder;
            deathRule[deathRules] = rule;
            deathDay[deathRules] = now;
            deathRules++;
            return true;
        }

        int ruleOfDeath(int holder, int q) {
            for (int i = deathRules - 1; i >= 0; i--) {
                if (deathHolder[i] == holder && deathDay[i] <= q) {
                    return deathRule[i];
                }
            }
            return NONE;
        }

        /** Bits of the HOLDERS whose last word up to a day was yes, and 12 higher of those with no. */
        int voices(int of, int upTo) {
            int voices = 0;
            for (int i = 0; i < count && day[i] <= upTo; i++) {
                if (about[i] == of) {
                    int bit = 1 << by[i];
                    voices &= ~(bit | bit << MOST_HOLDERS);
                    voices |= yes[i] ? bit : bit << MOST_HOLDERS;
                }
            }
            return voices;
        }

        int firstYes(int of, int upTo) {
            for (int i = 0; i < count && day[i] <= upTo; i++) {
                if (about[i] == of && yes[i]) {
                    return day[i];
                }
            }
            return NONE;
        }
    }

    /** THINGS, SEALED to a KEY or to a RULE. */
    private static final class Things {
        private static final int MOST = 40;

        private int count;
        private final int[] digest = new int[MOST];
        private final int[] to = new int[MOST];
        private final boolean[] byRule = new boolean[MOST];
        private final int[] asked = new int[MOST];
        private final boolean[] opened = new boolean[MOST];

        boolean knows(int thing) {
            return thing >= 0 && thing < count;
        }

        boolean isByRule(int thing) {
            return knows(thing) && byRule[thing];
        }

        int add(int newDigest, int newTo, boolean isByRule) {
            if (count >= MOST) {
                return NONE;
            }
            digest[count] = newDigest;
            to[count] = newTo;
            byRule[count] = isByRule;
            asked[count] = NONE;
            count++;
            return count - 1;
        }

        int openedOnes() {
            int found = 0;
            for (int i = 0; i < count; i++) {
                if (opened[i]) {
                    found++;
                }
            }
            return found;
        }
    }

    /** SIGNATURES, and the starts of those who sign together. */
    private static final class Signatures {
        private static final int MOST = 80;

        private int count;
        private final int[] r = new int[MOST];
        private final int[] s = new int[MOST];
        private final int[] key = new int[MOST];
        private final int[] thing = new int[MOST];
        private final int[] day = new int[MOST];
        private final int[] start = new int[MOST_HOLDERS];

        boolean knows(int signature) {
            return signature >= 0 && signature < count;
        }

        boolean isFull() {
            return count >= MOST;
        }

        int add(int newR, int newS, int byKey, int ofThing, int now) {
            if (isFull()) {
                return NONE;
            }
            r[count] = newR;
            s[count] = newS;
            key[count] = byKey;
            thing[count] = ofThing;
            day[count] = now;
            count++;
            return count - 1;
        }

        /** Draws a start for each of the set; answers the product of 4 to these. */
        int drawStarts(int set, long seed) {
            int product = 1;
            long y = seed;
            for (int i = 0; i < MOST_HOLDERS; i++) {
                if (hasBit(set, i)) {
                    y = Field.nextSeed(y);
                    start[i] = Field.start(y);
                    product = Field.product(product, Field.powerOf4(start[i]));
                }
            }
            return product;
        }
    }

    /** KEYS that are LENT. To whom does not matter later: whoever has it LENT need not GET the KEY. */
    private static final class Loans {
        private static final int MOST = 40;
        private static final int MOST_USES = 100;

        private int count;
        private final int[] key = new int[MOST];
        private final int[] to = new int[MOST];
        private final int[] usesLeft = new int[MOST];
        private final int[] thing = new int[MOST];
        private final boolean[] isBack = new boolean[MOST];

        boolean knows(int lent) {
            return lent >= 0 && lent < count;
        }

        int add(int newKey, int toDay, int uses, int forThing) {
            if (count >= MOST) {
                return NONE;
            }
            key[count] = newKey;
            to[count] = toDay;
            usesLeft[count] = uses;
            thing[count] = forThing;
            count++;
            return count - 1;
        }

        boolean serves(int lent, int ofThing, int now) {
            if (!knows(lent) || isBack[lent] || now > to[lent] || usesLeft[lent] <= 0) {
                return false;
            }
            return thing[lent] == NONE || thing[lent] == ofThing;
        }

        int notBack() {
            int found = 0;
            for (int i = 0; i < count; i++) {
                if (!isBack[i]) {
                    found++;
                }
            }
            return found;
        }
    }

    /** What sets of HOLDERS GET on the day that it was settled on last. */
    private static final class Reach {
        private static final int MORE_THAN_ALL = MOST_HOLDERS + 1;
        private static final int MOST_STEPS = Keys.MOST + Ties.MOST_WRAPS;

        private final long[] held = new long[MOST_HOLDERS];
        private final int[] key = new int[Partings.MOST];
        private final int[] set = new int[Partings.MOST];
        private final int[] need = new int[Partings.MOST];
        private final int[] live = new int[Partings.MOST];
        private int liveCount;
        private final int[] from = new int[MOST_STEPS];
        private final int[] to = new int[MOST_STEPS];
        private int steps;
        private int leastSize;
        private int leastWays;
        private int leastFirst;

        void settle(int day, Keys keys, Ties ties, Partings partings) {
            ties.heldOn(day, held);
            settlePartings(day, partings);
            steps = 0;
            for (int i = 0; i < keys.count; i++) {
                if (keys.sort[i] == Keys.MADE && keys.day[i] <= day) {
                    addStep(keys.root[i], i);
                }
            }
            for (int i = 0; i < ties.wraps; i++) {
                if (ties.isWrapOn(i, day)) {
                    addStep(ties.outer[i], ties.inner[i]);
                }
            }
        }

        private void settlePartings(int day, Partings partings) {
            liveCount = 0;
            for (int i = 0; i < partings.count; i++) {
                if (partings.inForce(i, day)) {
                    key[i] = partings.key[i];
                    set[i] = partings.set[i];
                    need[i] = partings.need[i];
                    live[liveCount] = i;
                    liveCount++;
                }
            }
        }

        private void addStep(int fromKey, int toKey) {
            if (steps < MOST_STEPS) {
                from[steps] = fromKey;
                to[steps] = toKey;
                steps++;
            }
        }

        long gets(int of) {
            return onward(atOnce(of));
        }

        private long atOnce(int of) {
            long got = 0;
            for (int i = 0; i < MOST_HOLDERS; i++) {
                if (hasBit(of, i)) {
                    got |= held[i];
                }
            }
            for (int i = 0; i < liveCount; i++) {
                if (suffices(live[i], of)) {
                    got |= 1L << key[live[i]];
                }
            }
            return got;
        }

        private boolean suffices(int parting, int of) {
            return Integer.bitCount(of & set[parting]) >= need[parting];
        }

        /** Each round but the last adds a KEY at least, so as many rounds as KEYS are enough. */
        private long onward(long start) {
            long got = start;
            long before = ~start;
            for (int round = 0; round <= Keys.MOST && got != before; round++) {
                before = got;
                for (int i = 0; i < steps; i++) {
                    if (hasKey(got, from[i])) {
                        got |= 1L << to[i];
                    }
                }
            }
            return got;
        }

        /** All KEYS from which one comes to this one. */
        private long sourcesOf(int aim) {
            long found = 1L << aim;
            long before = 0;
            for (int round = 0; round <= Keys.MOST && found != before; round++) {
                before = found;
                for (int i = 0; i < steps; i++) {
                    if (hasKey(found, to[i])) {
                        found |= 1L << from[i];
                    }
                }
            }
            return found;
        }

        private int holdersOfAny(long some) {
            int found = 0;
            for (int i = 0; i < MOST_HOLDERS; i++) {
                if ((held[i] & some) != 0) {
                    found |= 1 << i;
                }
            }
            return found;
        }

        private void keepLive(long some) {
            int kept = 0;
            for (int i = 0; i < liveCount; i++) {
                if (hasKey(some, key[live[i]])) {
                    live[kept] = live[i];
                    kept++;
                }
            }
            liveCount = kept;
        }

        /** A FALL has one HOLDER at least, so the empty set is none of those looked at. */
        void searchLeast(int aim, boolean bare, int all) {
            long sources = sourcesOf(aim);
            int owners = holdersOfAny(sources);
            keepLive(sources);
            leastSize = MORE_THAN_ALL;
            leastWays = 0;
            leastFirst = 0;
            for (int fallen = 1; fallen <= all; fallen++) {
                int size = Integer.bitCount(fallen);
                if (size <= leastSize && comesTo(bare ? fallen : all & ~fallen, owners) == bare) {
                    takeLeast(fallen, size);
                }
            }
        }

        private boolean comesTo(int of, int owners) {
            if ((of & owners) != 0) {
                return true;
            }
            for (int i = 0; i < liveCount; i++) {
                if (suffices(live[i], of)) {
                    return true;
                }
            }
            return false;
        }

        private void takeLeast(int fallen, int size) {
            if (size < leastSize) {
                leastSize = size;
                leastWays = 1;
                leastFirst = fallen;
                return;
            }
            leastWays++;
            int differ = fallen ^ leastFirst;
            int lowest = differ & -differ;
            if ((fallen & lowest) != 0) {
                leastFirst = fallen;
            }
        }

        /** The lowest of these KEYS whose ROOT, and all KEYS around it, are none of them; or NONE. */
        int lowestFree(long waiting) {
            long free = waiting;
            for (int i = 0; i < steps; i++) {
                if (hasKey(waiting, from[i])) {
                    free &= ~(1L << to[i]);
                }
            }
            for (int i = 0; i < Keys.MOST; i++) {
                if (hasKey(free, i)) {
                    return i;
                }
            }
            return NONE;
        }
    }
}
