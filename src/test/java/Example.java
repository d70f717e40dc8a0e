import java.util.NoSuchElementException;

/** The example of README.md: a QUEUE is told, worked by hand, asked about; then a WORK is judged. */
public final class Example {
    private Example() {
    }

    public static void main(String[] args) throws NoSuchElementException {
        RaisedQueue x = new RaisedQueue();
        write(x, "heap a; heap b; shelf s odd; share 0;"
            + " item i plain 3 over 1 in a; item j odd 1 over 1 in a; item k late 0 over 1 in b;");
        System.out.println("signs on the TAPE: " + x.count(10));
        System.out.println("it is a QUEUE: " + x.queue());
        System.out.println("KEYS by their bits: " + x.bits(0) + ", " + x.bits(1) + ", " + x.bits(2));
        System.out.println("KEYS as numbers: " + Float.intBitsToFloat(x.bits(0)) + ", "
            + Float.intBitsToFloat(x.bits(1)) + ", " + Float.intBitsToFloat(x.bits(2)));
        System.out.println("j is RAISED: " + x.item(1, 4) + ", by " + Float.intBitsToFloat(x.lift(1)));
        System.out.println("of HEAP a would come next: " + x.first(0));

        System.out.println("what comes out is shelved: " + x.shelve(0, 0));
        System.out.println("ITEMS on SHELF s: " + x.shelf(0));
        System.out.println("undone: " + x.undo());
        System.out.println("b melded into a: " + x.meld(1, 0));
        System.out.println("they would come: " + x.comes(0, 0) + ", " + x.comes(0, 1) + ", " + x.comes(0, 2));
        System.out.println("taken: " + x.take(0) + ", then left in a: " + x.heap(0, 0));
        System.out.println("of an empty HEAP: " + x.take(1));
        System.out.println("questions that were SHUT: " + x.count(6));

        write(x, "take b; put k a; shelve a s; take b;");
        System.out.println("it is a WORK: " + x.work());
        System.out.println("the first line that can't be: " + x.judged(0));
        System.out.println("on the FLOOR at last: " + x.judged(1));

        write(x, "heap a; heap 1;");
        int fault = x.queue();
        System.out.println("a FAULT of kind " + fault % 16 + " at place " + fault / 16);
    }

    /** Puts a text on the TAPE: 24 signs a call, 8 in each number, the highest byte first. */
    private static void write(RaisedQueue x, String text) {
        for (int i = 0; i < text.length(); i += 24) {
            x.feed(eight(text, i), eight(text, i + 8), eight(text, i + 16));
        }
    }

    private static long eight(String text, int start) {
        long signs = 0;
        for (int i = start; i < start + 8; i++) {
            signs = signs << 8 | (i < text.length() ? text.charAt(i) : 0);
        }
        return signs;
    }
}
