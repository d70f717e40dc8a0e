/** Counts what holds and what does not, for the tests of this folder. */
final class Check {
    private static final int MOST_PRINTED = 40;
    private static int passed = 0;
    private static int failed = 0;
    private static String heading = "";
    private static int headings = 0;

    private Check() {
    }

    /** What is looked at from here on belongs to this promise and to this sentence of the document. */
    static void heading(String promise, String sentence) {
        heading = promise + ": \"" + sentence + "\": ";
        headings++;
    }

    static void same(String what, long got, long due) {
        if (got == due) {
            passed++;
            return;
        }
        failed++;
        if (failed <= MOST_PRINTED) {
            System.out.println(heading + what + " answered " + got + ", due is " + due);
        }
    }

    static void same(String what, boolean got, boolean due) {
        same(what, got ? 1 : 0, due ? 1 : 0);
    }

    static void same(String what, String got, String due) {
        if (!got.equals(due)) {
            System.out.println(heading + what + " answered " + got + ", due is " + due);
        }
        same(what + " (as told above)", got.equals(due), true);
    }

    /** Told at a test's end: how it went; the machine ends with 1 if anything failed. */
    static void end(String name) {
        String sentences = headings == 0 ? "" : headings + " sentences, ";
        System.out.println(name + ": " + sentences + passed + " answers as due, " + failed + " not");
        if (failed != 0) {
            System.exit(1);
        }
    }

    /** Puts a text on the TAPE, 24 signs a call. */
    static void write(RaisedQueue x, String text) {
        for (int i = 0; i < text.length(); i += 24) {
            x.feed(bytes(text, i), bytes(text, i + 8), bytes(text, i + 16));
        }
    }

    static long bytes(String text, int start) {
        long sum = 0;
        for (int i = start; i < start + 8; i++) {
            sum = sum << 8 | (i < text.length() ? text.charAt(i) & 255 : 0);
        }
        return sum;
    }

    static int queue(RaisedQueue x, String text) {
        write(x, text);
        return x.queue();
    }

    static int work(RaisedQueue x, String text) {
        write(x, text);
        return x.work();
    }

    /** A new object to which this QUEUE was told. */
    static RaisedQueue told(String text) {
        RaisedQueue x = new RaisedQueue();
        same("queue() of " + text, queue(x, text), 0);
        return x;
    }
}
