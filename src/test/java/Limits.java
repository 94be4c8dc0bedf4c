import java.lang.management.ManagementFactory;
import java.lang.reflect.Array;
import java.lang.reflect.Field;
import java.lang.reflect.Modifier;
import java.util.IdentityHashMap;
import java.util.NoSuchElementException;
import java.util.Random;

/**
 * The heaviest chapels that a text can tell: any arguments give an answer or an exception that the document names, an
 * object is small, its calls make nothing, and none takes long.
 */
public final class Limits {
    // Room for 600,000 objects and 7,300,000 elements, even if a run made 500 objects of the class.
    private static final int MOST_OBJECTS = 600000 / 500;
    private static final int MOST_ELEMENTS = 7300000 / 500;
    private static final long MOST_NANOS = 20000000000L;
    // The machine itself may make a little while it measures; an array in each call would be far more.
    private static final long MOST_BYTES_MADE = 1024;
    private static int wrong = 0;
    private static long sum = 0;

    private static void wrong(String text) {
        wrong++;
        System.out.println("limits: " + text);
    }

    private static void told(PunchCards x, String text) {
        if (Check.tell(x, text) != 0) wrong("a fault at " + x.fault() + " in " + text);
    }

    private static String heavy(boolean longUp) {
        StringBuilder s = new StringBuilder("threads 12;");
        int[] holes = {1365, 2730, 819, 3, 4095, 0, 2049, 1092, 585, 73};
        for (int c = 0; c < 10; c++) s.append("card ").append(holes[c]).append(' ').append(c % 3).append(' ').append(c % 9).append(';');
        s.append(longUp ? "lace 0 1 2 3 4 5 6 7 8 9 0 1;" : "lace 0 1 2 3 4 5 6 7 8;");
        for (int f = 0; f < 5; f++) s.append("figure 0 4 ").append(f).append(' ').append(15 - f).append(" 6;");
        String head = longUp ? "up hole+beside*ahead+pick*thread+wear" : "harm holes+alike+first+second";
        String more = longUp ? "*wear-pick" : "*holes-first";
        s.append(head);
        while (s.length() + more.length() + 1 <= 700) s.append(more);
        return s.append(';').toString();
    }

    private static int any(Random r) {
        int k = r.nextInt(8);
        return k == 0 ? r.nextInt() : k == 1 ? Integer.MIN_VALUE : k == 2 ? Integer.MAX_VALUE : r.nextInt(14) - 1;
    }

    private static int call(PunchCards x, int which, Random r) {
        int a = any(r);
        int b = any(r);
        int c = any(r);
        switch (which) {
            case 0: return x.count(a);
            case 1: return x.card(a, b);
            case 2: return x.lace(a);
            case 3: return x.figure(a, b);
            case 4: return x.snarl(a, b);
            case 5: return x.sundays(a);
            case 6: return x.punch(a, b);
            case 7: return x.turn(a);
            case 8: return x.cut(a);
            case 9: return x.change(a, b) ? 1 : 0;
            case 10: return x.undo();
            case 11: return x.then(a, b);
            case 12: return x.granted(a);
            case 13: return x.worn(a);
            case 14: return x.changes();
            case 15: return x.floats(a);
            case 16: return x.stands(a, b);
            case 17: return x.order(a);
            case 18: return x.punching(a, b, c);
            case 19: return x.same(a);
            case 20: return x.see(a, b, c, r.nextBoolean());
            case 21: x.forget(); return 0;
            case 22: return x.backwards(a);
            case 23: return x.punched(a, b);
            case 24: return x.next(a);
            case 25: return x.toCut(a, b, c, any(r));
            case 26: return x.coats(a);
            case 27: return x.game(a, b, c);
            case 28: return x.drawn(a, b, c);
            case 29: return x.gap(a, b);
            case 30: return x.unlike(a, b);
            case 31: return x.family(a);
            case 32: return x.turning(a);
            case 33: return x.leftOut(a);
            case 34: return x.cutting(a);
            case 35: return x.mirrored(a) ? 1 : 0;
            case 36: return x.swap();
            case 37: x.image(); return 0;
            case 38: return x.restore() ? 1 : 0;
            case 39: return x.fault();
            case 40: return x.feed(a, b, c, 0, 0);
            default: return x.chapel(a);
        }
    }

    private static void anyArguments() {
        Random r = new Random(5);
        for (int run = 0; run < 400; run++) {
            PunchCards x = new PunchCards();
            if (run % 4 != 0) told(x, heavy(run % 2 == 0));
            for (int i = 0; i < 600; i++) {
                int which = r.nextInt(42);
                if (which > 39 && r.nextInt(4) != 0) which = 20;
                try {
                    sum += call(x, which, r);
                } catch (NoSuchElementException | IllegalArgumentException e) {
                    if (e.getClass() != NoSuchElementException.class && e.getClass() != IllegalArgumentException.class) {
                        wrong("call " + which + " threw " + e);
                    }
                } catch (RuntimeException e) {
                    wrong("call " + which + " threw " + e);
                }
            }
        }
    }

    private static void dearest(PunchCards x) {
        for (int i = 0; i < 8; i++) sum += x.see(8, i, 2 * i, i % 2 == 0);
        for (int card = 0; card < 10; card++) {
            sum += x.same(card) + x.punched(card, 0) + x.punched(card, 1) + x.coats(card) + x.worn(card);
            for (int f = 0; f < 5; f++) sum += x.punching(card, f, 0);
        }
        sum += x.backwards(0) + x.next(0) + x.cutting(30) + x.drawn(77, 30, 0) + x.granted(30) + x.order(-1) + x.order(8)
            + x.swap() + x.changes() + x.count(6) + x.turning(4) + x.sundays(20) + x.undo() + x.toCut(30, 3, 9, 0)
            + x.game(0, 1, 0) + x.leftOut(3) + x.floats(-1) + (x.mirrored(1) ? 1 : 0);
        x.image();
        sum += x.restore() ? 1 : 0;
        x.forget();
    }

    private static void timeAndRoom() {
        com.sun.management.ThreadMXBean bean = (com.sun.management.ThreadMXBean) ManagementFactory.getThreadMXBean();
        long me = Thread.currentThread().getId();
        for (int kind = 0; kind < 2; kind++) {
            PunchCards x = new PunchCards();
            told(x, heavy(kind == 0));
            dearest(x);
            long measuring = bean.getThreadAllocatedBytes(me);
            measuring = bean.getThreadAllocatedBytes(me) - measuring;
            long before = bean.getThreadAllocatedBytes(me);
            long start = System.nanoTime();
            dearest(x);
            long nanos = System.nanoTime() - start;
            long made = bean.getThreadAllocatedBytes(me) - before - measuring;
            if (made > MOST_BYTES_MADE) wrong("calls made " + made + " bytes");
            if (nanos > MOST_NANOS) wrong("the dearest calls took " + nanos + " ns");
        }
    }

    private static void room(Object o, IdentityHashMap<Object, Boolean> known, int[] counts) throws IllegalAccessException {
        if (o == null || known.put(o, true) != null) return;
        counts[0]++;
        if (o.getClass().isArray()) {
            counts[1] += Array.getLength(o);
            return;
        }
        for (Field f : o.getClass().getDeclaredFields()) {
            if (Modifier.isStatic(f.getModifiers())) continue;
            counts[1]++;
            f.setAccessible(true);
            if (!f.getType().isPrimitive()) room(f.get(o), known, counts);
        }
    }

    public static void main(String[] args) throws Exception {
        anyArguments();
        timeAndRoom();
        int[] counts = new int[2];
        room(new PunchCards(), new IdentityHashMap<>(), counts);
        if (counts[0] > MOST_OBJECTS) wrong(counts[0] + " objects in one");
        if (counts[1] > MOST_ELEMENTS) wrong(counts[1] + " fields and elements in one");
        System.out.println("limits: an object is " + counts[0] + " objects of " + counts[1] + " fields and elements, answers sum up to "
            + sum + ", " + wrong + " wrong");
        System.exit(wrong == 0 ? 0 : 1);
    }
}
