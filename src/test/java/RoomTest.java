import java.lang.management.ManagementFactory;
import java.lang.reflect.InvocationTargetException;
import java.lang.reflect.Method;
import java.lang.reflect.Modifier;
import java.util.ArrayList;
import java.util.Comparator;
import java.util.List;
import java.util.NoSuchElementException;
import java.util.Random;

/** Nothing but what the document names is ever thrown, calls make no objects, and the dearest calls end soon. */
public final class RoomTest {
    private static final int[] EDGES = {0, 1, 2, 3, 7, 8, 11, 12, 13, 19, 20, 31, 32, 39, 40, 63, 64, 79, 80, 159, 160, 161,
        199, 200, 511, 512, 1018, 1019, 2000, 2001, 2038, 2039, 4095, 4096, -1, -2, -3, -40, Integer.MAX_VALUE,
        Integer.MIN_VALUE, Integer.MAX_VALUE - 1, Integer.MIN_VALUE + 1};
    private static int wrong = 0;

    private static void wrong(String what) {
        wrong++;
        System.out.println(what);
    }

    private static List<Method> face() {
        List<Method> face = new ArrayList<>();
        for (Method m : LifeKeys.class.getDeclaredMethods()) {
            if (Modifier.isPublic(m.getModifiers())) {
                face.add(m);
            }
        }
        face.sort(Comparator.comparing(Method::getName));
        return face;
    }

    private static Object argument(Class<?> type, Random random) {
        if (type == boolean.class) {
            return random.nextBoolean();
        }
        if (type == long.class) {
            return random.nextInt(3) == 0 ? (long) EDGES[random.nextInt(EDGES.length)] : random.nextLong();
        }
        return random.nextInt(8) == 0 ? random.nextInt() : random.nextInt(3) == 0 ? EDGES[random.nextInt(EDGES.length)] : random.nextInt(5);
    }

    private static void anyArguments(long seed, int calls) throws IllegalAccessException {
        Random random = new Random(seed);
        List<Method> face = face();
        LifeKeys x = seed % 2 == 0 ? new LifeKeys() : full();
        for (int i = 0; i < calls; i++) {
            Method m = face.get(random.nextInt(face.size()));
            Object[] arguments = new Object[m.getParameterCount()];
            for (int j = 0; j < arguments.length; j++) {
                arguments[j] = argument(m.getParameterTypes()[j], random);
            }
            try {
                m.invoke(x, arguments);
            } catch (InvocationTargetException e) {
                if (!m.getName().equals("open") || !(e.getCause() instanceof NoSuchElementException)) {
                    wrong(m.getName() + java.util.Arrays.toString(arguments) + " threw " + e.getCause());
                }
            }
        }
    }

    /** As full of everything as it can be, with the dearest rules and partings. */
    private static LifeKeys full() {
        LifeKeys x = new LifeKeys();
        for (int i = 0; i < 12; i++) {
            x.holder();
        }
        x.key(5, true);
        for (int i = 1; i < 20; i++) {
            Texts.tape(x, "name" + (char) (64 + i));
            x.make(0);
        }
        for (int i = 20; i < 40; i++) {
            x.key(i, false);
        }
        StringBuilder text = new StringBuilder();
        while (text.length() < 157) {
            text.append("d0|");
        }
        Texts.tape(x, text + "d1");
        x.rule();
        Texts.tape(x, "((((((((h1|w3))))))))");
        x.rule();
        for (int i = 0; i < 40; i++) {
            x.wrap(i, (i + 39) % 40);
            x.part(i, 4095, 6, i);
            x.seal(i, i % 2, true);
            x.death(i % 12, i % 2);
        }
        for (int i = 0; i < 200; i++) {
            x.say(i % 12, i % 40, i % 3 == 0);
        }
        for (int i = 0; i < 20; i++) {
            x.fall(1 + i * 200);
        }
        return x;
    }

    private static void noObjects() {
        com.sun.management.ThreadMXBean threads = (com.sun.management.ThreadMXBean) ManagementFactory.getThreadMXBean();
        for (int round = 0; round < 3; round++) {
            long start = threads.getCurrentThreadAllocatedBytes();
            LifeKeys x = new LifeKeys();
            long made = threads.getCurrentThreadAllocatedBytes();
            // 7.3 million elements for a run: even an object for each of 512 calls must find room.
            if (round > 0 && made - start > 57_000) {
                wrong("a new object takes " + (made - start) + " bytes");
            }
            x = full();
            long before = threads.getCurrentThreadAllocatedBytes();
            for (int i = 0; i < 60; i++) {
                dearCalls(x, i);
            }
            long taken = threads.getCurrentThreadAllocatedBytes() - before;
            if (round > 0 && taken > 1000) {
                wrong("calls took " + taken + " bytes");
            }
        }
    }

    private static void dearCalls(LifeKeys x, int i) {
        x.least(i % 40, 0);
        x.ways(i % 40, 1);
        x.first(i % 40, 0);
        x.better(i % 40);
        x.order(i % 20, 39);
        x.fallen(i % 20, 0);
        x.got(4095, 0);
        x.may(i % 40, 2000, 0);
        x.dead(i % 12, 2000, 0);
        x.unseal(i % 40);
        x.several(i % 40, 4095, i % 40, i);
        x.sign(0, i % 40, 0, 5);
        x.feed(i, i, i, i, i);
        x.fault();
        x.rule();
        x.end(0);
        x.piece(i % 40, 3);
        x.fits(i % 40, 3, 5);
        x.lay(i % 12, i);
        x.join();
        x.told(i % 40, 4);
        x.give(i % 12, i % 40);
        x.take(i % 12, i % 40);
    }

    public static void main(String[] args) throws IllegalAccessException {
        for (long seed = 0; seed < 400; seed++) {
            anyArguments(seed, seed % 40 == 0 ? 20000 : 600);
        }
        noObjects();
        if (wrong != 0) {
            System.exit(1);
        }
        System.out.println("nothing was thrown, nothing was made by calls");
    }
}
