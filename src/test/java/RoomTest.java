import com.sun.management.ThreadMXBean;
import java.lang.management.ManagementFactory;
import java.util.NoSuchElementException;
import java.util.Random;

/** No call ever throws but as told, whatever it is asked; and calls take no room. */
public final class RoomTest {
    private static final int MOST_CALLS = 512;
    private static final int OBJECTS = 400;
    private static final int CALLS_WITHOUT_END = 200000;
    private static final int[] NUMBERS = {-1, 0, 1, 2, 3, 4, 5, 7, 8, 9, 10, 19, 20, 99, 100, Integer.MIN_VALUE,
        Integer.MAX_VALUE};
    private static final String MANY = "heap a; heap b; heap c; shelf s plain; shelf t odd; grows rank + all;"
        + " item d plain 1 over 1 in a; item e odd 2 over 1 in a; item f late 3 over 1 in b;"
        + " item g urgent 4 over 1 in b; item h plain 5 over 1 in c; item i odd 6 over 7 in c; item j plain 1 over 9 in a;"
        + " item k plain 2 over 1 in a; item l plain 3 over 1 in a; item m plain 4 over 1 in a; item n plain 5 over 1 in a;"
        + " item o plain 6 over 1 in b; item p plain 7 over 1 in b; item q plain 8 over 1 in b; item r plain 9 over 1 in b;";
    private static final String WORK = "put d a; take a; shelve a s; meld a b;";
    // feeds of both texts, queue() and work()
    private static final int CALLS_OF_TEXTS = (MANY.length() + 23) / 24 + (WORK.length() + 23) / 24 + 2;

    private RoomTest() {
    }

    public static void main(String[] args) {
        for (int seed = 0; seed < OBJECTS; seed++) {
            Random random = new Random(seed);
            RaisedQueue x = toldMany();
            Check.same("calls on an object, seed " + seed, callOn(x, random, MOST_CALLS - CALLS_OF_TEXTS), "nothing thrown");
            RaisedQueue untold = new RaisedQueue();
            Check.same("calls on a new object, seed " + seed, callOn(untold, random, MOST_CALLS), "nothing thrown");
        }
        withoutEnd();
        room();
        Check.end("RoomTest");
    }

    private static RaisedQueue toldMany() {
        RaisedQueue x = new RaisedQueue();
        Check.same("the QUEUE", Check.queue(x, MANY), 0);
        Check.same("the WORK", Check.work(x, WORK), 0);
        return x;
    }

    /** What is answered behind the 512th call is free; that no call throws by itself is a rule of LANGUAGE.md. */
    private static void withoutEnd() {
        for (int seed = 0; seed < 4; seed++) {
            String got = callOn(toldMany(), new Random(seed), CALLS_WITHOUT_END);
            Check.same("calls without end, seed " + seed, got, "nothing thrown");
        }
    }

    private static String callOn(RaisedQueue x, Random random, int calls) {
        for (int i = 0; i < calls; i++) {
            try {
                callOnce(x, random);
            } catch (RuntimeException e) {
                return e.toString();
            }
        }
        return "nothing thrown";
    }

    private static void callOnce(RaisedQueue x, Random random) {
        int a = some(random);
        int b = some(random);
        int c = some(random);
        switch (random.nextInt(45)) {
            case 0: x.feed(random.nextLong(), random.nextLong(), random.nextLong()); break;
            case 1: x.work(); break;
            case 2: x.item(a, b); break;
            case 3: x.heap(a, b); break;
            case 4: x.tree(a, b, c); break;
            case 5: x.listed(a, b, c); break;
            case 6: x.shelf(a); break;
            case 7: x.meld(a, b); break;
            case 8: x.shelve(a, b); break;
            case 9: x.undo(); break;
            case 10: x.judged(a); break;
            case 11: x.first(a); break;
            case 12: comesQuietly(x, a, b); break;
            case 13: awayQuietly(x, a, b); break;
            case 14: x.wrongs(a); break;
            case 15: x.far(a); break;
            case 16: x.select(a, b); break;
            case 17: x.split(a, b); break;
            case 18: x.steps(a, b); break;
            case 19: x.worth(a); break;
            case 20: x.mean(a); break;
            case 21: x.bits(a); break;
            case 22: x.thousand(a); break;
            case 23: x.lift(a); break;
            case 24: x.bound(a); break;
            case 25: x.depth(a); break;
            case 26: x.see(a, b, c > 2); break;
            case 27: x.who(); break;
            case 28: x.ask(); break;
            case 29: x.days(a, b, c); break;
            case 30: x.mark(a, c > 2); break;
            case 31: x.count(a); break;
            // more of these two, so that RANKS grow
            case 32: case 33: case 34: case 35: case 36: case 37: case 38: x.take(random.nextInt(3)); break;
            default: x.put(random.nextInt(20), random.nextInt(3)); break;
        }
    }

    private static void comesQuietly(RaisedQueue x, int heap, int i) {
        try {
            x.comes(heap, i);
        } catch (NoSuchElementException e) {
            return;
        }
    }

    private static void awayQuietly(RaisedQueue x, int heap, int item) {
        try {
            x.away(heap, item);
        } catch (NoSuchElementException e) {
            return;
        }
    }

    private static int some(Random random) {
        return NUMBERS[random.nextInt(random.nextInt(4) == 0 ? NUMBERS.length : 5)];
    }

    private static void room() {
        ThreadMXBean bean = (ThreadMXBean) ManagementFactory.getThreadMXBean();
        long thread = Thread.currentThread().getId();
        RaisedQueue x = toldMany();
        long before = bean.getThreadAllocatedBytes(thread);
        RaisedQueue y = new RaisedQueue();
        long made = bean.getThreadAllocatedBytes(thread) - before;
        y.count(0);
        int rounds = (MOST_CALLS - CALLS_OF_TEXTS) / 8;
        before = bean.getThreadAllocatedBytes(thread);
        for (int i = 0; i < rounds; i++) {
            x.days(i, 99, 0);
            x.steps(i % 3, i % 7);
            x.ask();
            x.judged(2);
            x.take(i % 3);
            x.put(i % 15, i % 3);
            x.mark(i % 2, i % 4 == 3);
            x.undo();
        }
        long taken = bean.getThreadAllocatedBytes(thread) - before;
        System.out.println("an object takes " + made + " bytes, " + 8 * rounds + " calls take " + taken);
        Check.same("an object takes little", made < 60000, true);
        Check.same("calls take nothing of account", taken < 4096, true);
    }
}
