import java.util.ArrayList;
import java.util.List;

/**
 * A cupboard that has something of all, and looks at all that a cupboard can answer. What no call
 * tells by itself (the bytes of the TAPE, the BENCH, uses and room that are left) is found by using
 * it up; so each look is taken at a cupboard of its own, and stays below the 512 calls.
 */
final class Twins {
    static final int NOW = 7;
    static final int HOLDERS = 5;
    static final int KEYS = 5;
    static final int PLAIN = 0;
    static final int ROOT = 1;
    static final int MADE = 2;
    static final int OLD_KEY = 4;
    static final int PARTINGS = 3;
    static final int PARTING = 0;
    static final int PARTING_OUT = 1;
    static final int WRAPS = 2;
    static final int WRAP_CUT = 1;
    static final int RULES = 3;
    static final int THINGS = 3;
    static final int THING_OF_KEY = 0;
    static final int THING_OF_RULE = 1;
    static final int THING_OPENED = 2;
    static final int SAYINGS = 4;
    static final int SIGNATURES = 3;
    static final int LENT = 3;
    static final int LENT_BACK = 2;
    static final int FALLS = 2;
    static final int TAPE = 5;
    static final int BENCH = 2;
    static final int[] COUNTS = {NOW, HOLDERS, KEYS, PARTINGS, WRAPS - 1, RULES, THINGS, SAYINGS, SIGNATURES, LENT - 1,
        FALLS, TAPE, BENCH, 1};

    static final int GLANCES = 17;

    private final LifeKeys x;
    private final List<String> seen = new ArrayList<>();

    private Twins(LifeKeys x) {
        this.x = x;
    }

    static void rich(LifeKeys x) {
        for (int i = 0; i < HOLDERS; i++) {
            x.holder();
        }
        x.key(5, false);
        x.key(10, true);
        Bounds.make(x, ROOT, "a");
        x.key(7, false);
        x.key(1018, true);
        x.give(0, 0);
        x.give(1, ROOT);
        x.part(3, 0b00111, 2, 5);
        x.part(4, 0b11110, 3, 6);
        x.wrap(3, 0);
        x.wrap(4, 1);
        x.days(3);
        x.again(PARTING_OUT, 7);
        x.cut(WRAP_CUT);
        x.give(3, 4);
        x.take(3, 4);
        richRules(x);
        x.days(NOW - 3);
        richHands(x);
        Texts.tape(x, "h1&n2");
        x.lay(0, 17);
        x.lay(3, 900);
    }

    private static void richRules(LifeKeys x) {
        Bounds.rule(x, "h0&w2");
        Bounds.rule(x, "!n1|d2");
        Bounds.rule(x, "1{h1,w4}");
        x.death(2, 2);
        x.seal(100, 0, false);
        x.seal(5, 0, true);
        x.seal(6, 1, true);
        x.say(0, THING_OF_RULE, true);
        x.say(1, THING_OPENED, false);
        x.mourn(1, 2, true);
        x.ask(THING_OF_RULE);
    }

    private static void richHands(LifeKeys x) {
        x.mourn(0, 3, false);
        x.unseal(THING_OPENED);
        x.sign(0, PLAIN, THING_OF_KEY, 3);
        x.several(PARTING, 0b00011, THING_OF_RULE, 9);
        x.lend(PLAIN, 2, 9, 3, Bounds.NONE);
        x.lend(ROOT, 3, 2000, 1, THING_OF_RULE);
        x.lend(ROOT, 3, NOW, 2, Bounds.NONE);
        x.use(0, THING_OF_KEY, 4);
        x.back(LENT_BACK);
        x.burn(3, 9);
        x.burn(PLAIN, 1500);
        x.old(OLD_KEY);
        x.fall(0b00001);
        x.fall(0b00110);
        x.falsely(3, true);
    }

    static List<String> look(LifeKeys x, int glance) {
        Twins twins = new Twins(x);
        twins.glance(glance);
        return twins.seen;
    }

    static String difference(List<String> one, List<String> other) {
        for (int i = 0; i < Math.min(one.size(), other.size()); i++) {
            if (!one.get(i).equals(other.get(i))) {
                return one.get(i) + ", without it " + other.get(i);
            }
        }
        return one.size() + " answers, without it " + other.size();
    }

    private void glance(int glance) {
        switch (glance) {
            case 0 -> counts();
            case 1 -> keys();
            case 2 -> reach();
            case 3 -> leasts();
            case 4 -> partings();
            case 5 -> holding();
            case 6 -> opening();
            case 7 -> signatures();
            case 8 -> standing();
            case 9 -> tapeAndBench();
            case 10 -> hands();
            case 11 -> lent();
            case 12 -> roomOfTellings();
            case 13 -> roomOfKeys();
            case 14 -> roomOfSayings();
            case 15 -> lastLent();
            default -> rules();
        }
    }

    private void see(String call, long answer) {
        seen.add(call + ": " + answer);
    }

    private void see(String call, boolean answer) {
        see(call, answer ? 1 : 0);
    }

    /** Does it as often as it is taken, up to a bound; how often that is tells the room that was left. */
    private void often(String call, int most, Bounds.Yes one) {
        int times = 0;
        while (times < most && one.on(x)) {
            times++;
        }
        see(call + " taken so often", times);
    }

    private void counts() {
        for (int what = 0; what < 14; what++) {
            see("count(" + what + ")", x.count(what));
        }
        for (int key = 0, many = x.count(2); key < many; key++) {
            see("open(" + key + ")", Bounds.publicOf(x, key));
            see("told(" + key + ", 0)", x.told(key, 0));
            see("told(" + key + ", 1)", x.told(key, 1));
        }
    }

    private void keys() {
        for (int key = 0, many = x.count(2); key < many; key++) {
            for (int what = 2; what < 5; what++) {
                see("told(" + key + ", " + what + ")", x.told(key, what));
            }
        }
    }

    private void reach() {
        int all = (1 << x.count(1)) - 1;
        for (int day : new int[] {0, 2, 3, x.count(0) - 1, x.count(0)}) {
            see("got(all, " + day + ")", x.got(all, day));
            for (int i = 0, many = x.count(1); i < many; i++) {
                see("got(of " + i + ", " + day + ")", x.got(1 << i, day));
            }
        }
        for (int fall = 0, many = x.count(10); fall < many; fall++) {
            see("fallen(" + fall + ", 0)", x.fallen(fall, 0));
            see("fallen(" + fall + ", 1)", x.fallen(fall, 1));
            see("order(" + fall + ", 0)", x.order(fall, 0));
            see("order(" + fall + ", 1)", x.order(fall, 1));
        }
    }

    private void leasts() {
        for (int key = 0, many = Math.min(8, x.count(2)); key < many; key++) {
            for (int what = 0; what < 2; what++) {
                see("least(" + key + ", " + what + ")", x.least(key, what));
                see("ways(" + key + ", " + what + ")", x.ways(key, what));
                see("first(" + key + ", " + what + ")", x.first(key, what));
            }
        }
        for (int i = 0, many = x.count(3); i < many; i++) {
            see("better(" + i + ")", x.better(i));
        }
    }

    private void partings() {
        int all = (1 << x.count(1)) - 1;
        for (int i = 0, many = x.count(3); i < many; i++) {
            see("left(" + i + ", all)", x.left(i, all));
            see("left(" + i + ", 1)", x.left(i, 1));
            see("checks(" + i + ", 0)", x.checks(i, 0));
            see("checks(" + i + ", 1)", x.checks(i, 1));
            see("piece(" + i + ", 0)", x.piece(i, 0));
            see("piece(" + i + ", 1)", x.piece(i, 1));
        }
    }

    private void holding() {
        int now = x.count(0);
        for (int i = 0, many = x.count(6); i < many; i++) {
            see("may(" + i + ", NOW, NOW)", x.may(i, now, now));
            see("may(" + i + ", 2000, NOW)", x.may(i, 2000, now));
            see("may(" + i + ", 3, 3)", x.may(i, 3, 3));
        }
        for (int i = 0, many = x.count(1); i < many; i++) {
            see("dead(" + i + ", NOW, NOW)", x.dead(i, now, now));
            see("dead(" + i + ", 2000, NOW)", x.dead(i, 2000, now));
            see("dead(" + i + ", 2000, 3)", x.dead(i, 2000, 3));
        }
    }

    private void opening() {
        for (int i = 0, many = x.count(6); i < many; i++) {
            see("unseal(" + i + ")", x.unseal(i));
            see("ask(" + i + ")", x.ask(i));
        }
        for (int i = 0, many = x.count(6); i < many; i++) {
            see("unseal(" + i + ") then", x.unseal(i));
        }
    }

    private void signatures() {
        for (int i = 0, many = x.count(8); i < many; i++) {
            see("signed(" + i + ", 0)", x.signed(i, 0));
            see("signed(" + i + ", 1)", x.signed(i, 1));
            see("signed(" + i + ", 2)", x.signed(i, 2));
        }
    }

    private void standing() {
        int now = x.count(0);
        for (int i = 0, many = x.count(8); i < many; i++) {
            see("signed(" + i + ", 3)", x.signed(i, 3));
            see("signed(" + i + ", 4)", x.signed(i, 4));
            see("stands(" + i + ", NOW)", x.stands(i, now));
        }
    }

    private void tapeAndBench() {
        see("fault()", x.fault());
        see("join()", x.join());
        see("join() then", x.join());
        int root = x.key(3, true);
        for (int length = Math.min(40, x.count(11)); length > 0; length -= 7) {
            see("end(" + length + ")", x.end(length));
            see("fault() of " + length, x.fault());
        }
        see("make", x.make(root));
        see("open of what was made", Bounds.publicOf(x, x.count(2) - 1));
        see("days(0)", x.days(0));
        for (int i = 0, many = x.count(1); i < many; i++) {
            see("falsely(" + i + ", true)", x.falsely(i, true));
        }
        see("days(1)", x.days(1));
    }

    private void hands() {
        int keys = Math.min(6, x.count(2));
        for (int holder = 0, many = x.count(1); holder < many; holder++) {
            for (int key = 0; key < keys; key++) {
                see("give(" + holder + ", " + key + ")", x.give(holder, key));
            }
        }
        for (int i = 0; i < 40; i++) {
            see("cut(" + i + ")", x.cut(i));
        }
    }

    private void lent() {
        for (int i = 0; i < 40; i++) {
            for (int thing = 0; thing < 2; thing++) {
                see("use(" + i + ", " + thing + ", 5)", x.use(i, thing, 5));
                see("use(" + i + ", " + thing + ", 5) again", x.use(i, thing, 5));
            }
            see("back(" + i + ")", x.back(i));
        }
        see("count(9)", x.count(9));
    }

    /** From the last on, since the SIGNATURES may come to an end before all LENT ones are used. */
    private void lastLent() {
        for (int i = 39; i >= 0; i--) {
            see("use(" + i + ", 0, 5)", x.use(i, 0, 5));
            see("use(" + i + ", 1, 5)", x.use(i, 1, 5));
            see("use(" + i + ", 0, 5) again", x.use(i, 0, 5));
        }
        int last = x.count(8) - 1;
        for (int i = last; i > last - 20; i--) {
            see("signed(" + i + ", 2)", x.signed(i, 2));
        }
    }

    private void rules() {
        int now = x.count(0);
        for (int i = 0, many = x.count(5); i < many; i++) {
            int thing = x.seal(1, i, true);
            see("ask of rule " + i, x.ask(thing));
            see("may of rule " + i, x.may(thing, now, now));
            see("may of rule " + i + " on the last DAY", x.may(thing, 2000, now));
            see("death by rule " + i, x.death(1, i));
            see("dead by rule " + i, x.dead(1, 2000, now));
        }
    }

    private void roomOfTellings() {
        for (int key = 0, many = x.count(2); key < many; key++) {
            see("old(" + key + ")", x.old(key));
        }
        often("burn", 61, y -> y.burn(0, 2000));
        often("death", 41, y -> y.death(0, 0));
        often("fall", 21, y -> y.fall(1) != Bounds.NONE);
        often("wrap", 41, y -> y.wrap(0, 1) != Bounds.NONE);
        often("lend", 41, y -> y.lend(0, 0, 2000, 1, Bounds.NONE) != Bounds.NONE);
    }

    private void roomOfKeys() {
        often("holder", 13, y -> y.holder() != Bounds.NONE);
        often("key", 41, y -> y.key(1, false) != Bounds.NONE);
        often("part", 41, y -> y.part(0, 1, 1, 1) != Bounds.NONE);
        often("seal", 41, y -> y.seal(1, 0, false) != Bounds.NONE);
        often("rule", 21, y -> {
            y.end(0);
            y.feed('w', '1', 0, 0, 0);
            return y.rule() != Bounds.NONE;
        });
    }

    private void roomOfSayings() {
        often("say", 201, y -> y.say(0, 0, true));
    }
}
