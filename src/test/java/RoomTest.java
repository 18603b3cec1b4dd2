import java.lang.management.ManagementFactory;
import java.lang.reflect.Array;
import java.lang.reflect.Field;
import java.lang.reflect.Modifier;
import java.util.ArrayDeque;
import java.util.Collections;
import java.util.Deque;
import java.util.IdentityHashMap;
import java.util.Random;
import java.util.Set;

/** What an object takes up, that calls make nothing, and that no call throws, whatever it is asked. */
final class RoomTest {
    private static final Check CHECK = new Check();
    private static int calls;

    public static void main(String[] args) throws ReflectiveOperationException {
        CHECK.about("the room");
        size();
        odd();
        nothingMade();
        CHECK.end();
    }

    /** Counts the objects and arrays of one SeaHair, and their fields and elements. */
    private static void size() throws ReflectiveOperationException {
        Set<Object> seen = Collections.newSetFromMap(new IdentityHashMap<>());
        Deque<Object> open = new ArrayDeque<>();
        SeaHair hair = new SeaHair();
        seen.add(hair);
        open.add(hair);
        int parts = 0;
        while (!open.isEmpty()) {
            Object one = open.remove();
            if (one.getClass().isArray()) {
                parts += Array.getLength(one);
                for (int i = 0; one instanceof Object[] && i < Array.getLength(one); i++) {
                    see(Array.get(one, i), seen, open);
                }
                continue;
            }
            for (Field field : one.getClass().getDeclaredFields()) {
                if (!Modifier.isStatic(field.getModifiers())) {
                    parts++;
                    field.setAccessible(true);
                    if (!field.getType().isPrimitive()) {
                        see(field.get(one), seen, open);
                    }
                }
            }
        }
        System.out.println("an object is " + seen.size() + " objects of " + parts + " parts");
        CHECK.due("at most 200 objects", seen.size() <= 200, true);
        CHECK.due("at most 8,000 parts", parts <= 8000, true);
    }

    private static void see(Object one, Set<Object> seen, Deque<Object> open) {
        if (one != null && seen.add(one)) {
            open.add(one);
        }
    }

    private static int any(Random chance) {
        int[] odd = {Integer.MIN_VALUE, Integer.MAX_VALUE, -1000000, -33, -32, -1, 31, 32, 33, 63, 64, 1 << 16};
        return chance.nextInt(4) == 0 ? odd[chance.nextInt(odd.length)] : chance.nextInt(12);
    }

    /** Any call with any arguments; a throw ends the test. */
    private static int callAny(SeaHair h, Random chance) {
        int a = any(chance);
        int b = any(chance);
        int c = any(chance);
        int d = any(chance);
        calls++;
        switch (chance.nextInt(38)) {
            case 0: return h.feed(chance.nextInt(), a, b, c, d);
            case 1: return h.back(a);
            case 2: return chance.nextInt(20) == 0 ? h.read() : 0;
            case 3: return h.place();
            case 4: return h.mermaid(a, b);
            case 5: return h.person(a, b);
            case 6: return h.strand(a, b);
            case 7: return h.hand(a, b) ? 1 : 0;
            case 8: return h.cut(a) ? 1 : 0;
            case 9: return h.die(a) ? 1 : 0;
            case 10: return h.months(a);
            case 11: return h.undo() ? 1 : 0;
            case 12: return h.then(a, b, c);
            case 13: return h.swims(a, b, c);
            case 14: return h.first(a);
            case 15: return h.near(a, b, c);
            case 16: return h.plait(a, b, c, d);
            case 17: return h.turns(a, b);
            case 18: return h.strongest(a, b);
            case 19: return h.again(a);
            case 20: return h.passing(a, b, c);
            case 21: return h.even(a);
            case 22: return h.market(a);
            case 23: return h.nothing(a, b);
            case 24: return h.safe(a, b);
            case 25: return h.cutBest();
            case 26: return h.worth(a);
            case 27: return h.give(a);
            case 28: return h.year(a, b, c);
            case 29: return h.tell(a, b, c % 3, d % 3);
            case 30: return chance.nextInt(20) == 0 ? h.forget() : 0;
            case 31: return h.where(a);
            case 32: return h.surest(a);
            case 33: return h.holdNext(a);
            case 34: return h.hold(a) ? 1 : 0;
            case 35: return h.restore(a) ? 1 : 0;
            default: return h.count(a);
        }
    }

    private static void odd() {
        Random chance = new Random(11);
        Texts texts = new Texts(chance);
        long sum = 0;
        for (int i = 0; i < 400; i++) {
            SeaHair hair = new SeaHair();
            for (int call = 0; call < 512; call++) {
                if (call % 200 == 20) {
                    hair.back(hair.count(8));
                    String text = chance.nextInt(4) == 0 ? texts.spoilt() : texts.right();
                    Check.put(hair, text.length() > 2000 ? text.substring(0, 2000) : text);
                    hair.read();
                }
                sum += callAny(hair, chance);
            }
        }
        CHECK.due("calls came to an end, " + sum, calls, 400 * 512);
    }

    private static void nothingMade() {
        com.sun.management.ThreadMXBean threads = (com.sun.management.ThreadMXBean) ManagementFactory.getThreadMXBean();
        long id = Thread.currentThread().getId();
        Random chance = new Random(12);
        SeaHair hair = CHECK.read("mermaid m 5 9 1 -2;mermaid n 0 9 3 -1;person p 5 2 3;person q 1 1 9;strand m p 4;strand n q 9;"
            + "pull = if far < 3 then (1 + 2) * far else length;storm = 3;seed 4;");
        long most = 0;
        for (int i = 0; i < 4; i++) {
            // the array of odd numbers in any() is 64 bytes, four a call
            long before = threads.getThreadAllocatedBytes(id);
            for (int call = 0; call < 5000; call++) {
                callAny(hair, chance);
            }
            most = threads.getThreadAllocatedBytes(id) - before;
        }
        CHECK.due("nothing is made by calls, " + most + " bytes", most <= 5000L * 4 * 64 + 20000, true);
    }
}
