import com.sun.management.ThreadMXBean;
import java.lang.management.ManagementFactory;
import java.util.NoSuchElementException;
import java.util.Random;

/** No call ever fails by itself, however many there are and whatever they are asked; and calls take no room. */
public final class RoomTest {
    private static final int CALLS = 200000;
    private static final int[] NUMBERS = {-1, 0, 1, 2, 3, 4, 5, 7, 8, 9, 10, 19, 20, 99, 100, Integer.MIN_VALUE,
        Integer.MAX_VALUE};
    private static final String MANY = "heap a; heap b; heap c; shelf s plain; shelf t odd; grows rank + all;"
        + " item d plain 1 over 1 in a; item e odd 2 over 1 in a; item f late 3 over 1 in b;"
        + " item g urgent 4 over 1 in b; item h plain 5 over 1 in c; item i odd 6 over 7 in c; item j plain 1 over 9 in a;"
        + " item k plain 2 over 1 in a; item l plain 3 over 1 in a; item m plain 4 over 1 in a; item n plain 5 over 1 in a;"
        + " item o plain 6 over 1 in b; item p plain 7 over 1 in b; item q plain 8 over 1 in b; item r plain 9 over 1 in b;";

    private RoomTest() {
    }

    public static void main(String[] args) {
        for (int seed = 0; seed < 4; seed++) {
            Check.same("calls without end, seed " + seed, callOn(new RaisedQueue(), new Random(seed), CALLS), "nothing thrown");
        }
        room();
        Check.end("RoomTest");
    }

    private static String callOn(RaisedQueue x, Random random, int calls) {
        for (int i = 0; i < calls; i++) {
            if (i % 50000 == 10) {
                x.work();
                Check.same("the QUEUE", Check.queue(x, MANY), 0);
                Check.same("the WORK", Check.work(x, "put d a; take a; shelve a s; meld a b;"), 0);
            }
            try {
                callOnce(x, random);
            } catch (NoSuchElementException e) {
                continue;
            } catch (RuntimeException e) {
                return e.toString();
            }
        }
        return "nothing thrown";
    }

    private static void callOnce(RaisedQueue x, Random random) {
        int a = some(random);
        int b = some(random);
        int c = some(random);
        switch (random.nextInt(38)) {
            case 0: x.feed(random.nextLong(), random.nextLong(), random.nextLong()); break;
            case 1: x.work(); break;
            case 2: x.item(a, b); break;
            case 3: x.heap(a, b); break;
            case 4: x.tree(a, b, c); break;
            case 5: x.listed(a, b, c); break;
            case 6: x.shelf(a); break;
            case 7: x.meld(a, b); break;
            case 8: x.shelve(a, b); break;
            case 9: x.undo(); break;
            case 10: x.judged(a); break;
            case 11: x.first(a); break;
            case 12: x.comes(a, b); break;
            case 13: x.away(a, b); break;
            case 14: x.wrongs(a); break;
            case 15: x.far(a); break;
            case 16: x.select(a, b); break;
            case 17: x.split(a, b); break;
            case 18: x.steps(a, b); break;
            case 19: x.worth(a); break;
            case 20: x.mean(a); break;
            case 21: x.bits(a); break;
            case 22: x.thousand(a); break;
            case 23: x.lift(a); break;
            case 24: x.bound(a); break;
            case 25: x.depth(a); break;
            case 26: x.see(a, b, c > 2); break;
            case 27: x.who(); break;
            case 28: x.ask(); break;
            case 29: x.days(a, b, c); break;
            case 30: x.mark(a, c > 2); break;
            case 31: x.count(a); break;
            default:
                // so that RANKS grow: one comes out, one goes in
                x.take(random.nextInt(3));
                x.put(random.nextInt(20), random.nextInt(3));
                break;
        }
    }

    private static int some(Random random) {
        return NUMBERS[random.nextInt(random.nextInt(4) == 0 ? NUMBERS.length : 5)];
    }

    private static void room() {
        ThreadMXBean bean = (ThreadMXBean) ManagementFactory.getThreadMXBean();
        long thread = Thread.currentThread().getId();
        RaisedQueue x = new RaisedQueue();
        Check.queue(x, MANY);
        long before = bean.getThreadAllocatedBytes(thread);
        RaisedQueue y = new RaisedQueue();
        long made = bean.getThreadAllocatedBytes(thread) - before;
        y.count(0);
        before = bean.getThreadAllocatedBytes(thread);
        for (int i = 0; i < 512; i++) {
            x.days(i, 99, 0);
            x.steps(i % 3, i % 7);
            x.ask();
            x.judged(2);
            x.take(i % 3);
            x.put(i % 15, i % 3);
            x.mark(i % 2, i % 4 == 3);
            x.undo();
        }
        long taken = bean.getThreadAllocatedBytes(thread) - before;
        System.out.println("an object takes " + made + " bytes, 4096 calls take " + taken);
        Check.same("an object takes little", made < 60000, true);
        Check.same("calls take nothing of account", taken < 4096, true);
    }
}
