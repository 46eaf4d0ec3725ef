import java.lang.management.ManagementFactory;
import java.lang.reflect.Array;
import java.lang.reflect.Field;
import java.lang.reflect.Modifier;
import java.util.IdentityHashMap;
import java.util.Map;

/** All calls of a run live in one room: an object is small, and its calls make nothing more. */
public final class RoomTest {
    private static long elements = 0;

    public static void main(String[] args) throws IllegalAccessException {
        Map<Object, Boolean> met = new IdentityHashMap<>();
        walk(new OunceLetters(), met);
        System.out.println("a new object: " + met.size() + " objects and arrays, " + elements + " fields and elements");
        Check.due("objects and arrays of one object", met.size() <= 150);
        Check.due("fields and elements of one object", elements <= 6000);
        for (int i = 0; i < 3; i++) {
            allCalls(new OunceLetters());
        }
        OunceLetters x = new OunceLetters();
        long before = allocated();
        allCalls(x);
        long made = allocated() - before;
        System.out.println("all calls: " + made + " bytes made");
        Check.due("calls make next to nothing", made < 2000);
        Check.end("RoomTest");
    }

    private static long allocated() {
        var threads = (com.sun.management.ThreadMXBean) ManagementFactory.getThreadMXBean();
        return threads.getThreadAllocatedBytes(Thread.currentThread().getId());
    }

    private static void walk(Object it, Map<Object, Boolean> met) throws IllegalAccessException {
        if (it == null || met.put(it, true) != null) {
            return;
        }
        if (it.getClass().isArray()) {
            elements += Array.getLength(it);
            for (int i = 0; i < Array.getLength(it) && !it.getClass().getComponentType().isPrimitive(); i++) {
                walk(Array.get(it, i), met);
            }
            return;
        }
        for (Field f : it.getClass().getDeclaredFields()) {
            if (!Modifier.isStatic(f.getModifiers())) {
                f.setAccessible(true);
                elements++;
                if (!f.getType().isPrimitive()) {
                    walk(f.get(it), met);
                }
            }
        }
    }

    /** Fewer than 512 calls, each kind among them, in the dearest state. */
    private static void allCalls(OunceLetters x) {
        String houses = "m1;v1;r1;m2;v2;r2;m3;v3";
        String terms = "abcdef1;abc1;bcd2;cde2;def3;ace3;hhhh4;gh1";
        Check.type(x, 0, houses);
        Check.type(x, 1, terms);
        for (int i = 0; i < 12; i++) {
            x.writing(i, i % 8, i * 5 % 8);
        }
        for (int i = 0; i < 8; i++) {
            x.lending(i, i, (i + 1) % 8, i);
            x.seen(i, i, i, 2);
            x.ration(i, i % 3);
        }
        for (int round = 0; round < 3; round++) {
            for (int i = 0; i < 8; i++) {
                x.has(11, i, round);
                x.say(5, i, 1);
                x.most(5, i, 1);
                x.papers(i, 0);
                x.lend(i);
                x.meant(i);
                x.got(i);
                x.ask(5, i);
                x.censor(7, i, 1, 0);
                x.post(i, 11, i);
            }
            x.sheet(round, round, 60);
            x.write(3, 0, round);
            x.read(round);
            x.copy(round, 0, round, 1, 59);
            x.lay(round, round, 0, 1);
            x.get(round, round, 0);
            x.lose(round);
            x.lose(round);
            x.bare(0);
            x.spent(0);
            x.count(6);
            x.never();
            x.digest();
            x.ration(0, round);
            x.digest();
        }
        x.forget();
        x.back(0);
        x.back(1);
        x.undo(1);
        x.wipe(0);
        x.digest();
    }
}
