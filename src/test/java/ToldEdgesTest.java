import java.util.List;
import java.util.NoSuchElementException;

/**
 * Promises 1 to 4, with part 1 of the terms, at their edges: each heading is a sentence of the document that names
 * one, with the promise that needs it, and its rows stand on both sides: the last that is allowed, the first that is not.
 */
public final class ToldEdgesTest {
    private static final int NONE = RaisedQueue.NONE;
    private static final String FEED = "Promise 2, feed";
    private static final String QUEUE = "Promise 3, queue";
    private static final String WORK = "Promise 4, work";
    private static final String[] RESERVED = {"heap", "shelf", "item", "over", "in", "share", "grows", "put", "take",
        "meld", "shelve", "plain", "urgent", "late", "odd", "not", "and", "or"};
    private static final String SIGNS = "()<=+-*;";
    private static final String HELD = "heap a; heap b; shelf s odd; item i plain 1 over 2 in a;";

    private ToldEdgesTest() {
    }

    public static void main(String[] args) {
        newObject();
        feedSigns();
        feedBeyond();
        tapeIsTaken();
        tokens();
        wordsAndNumbers();
        signs();
        howManyAreTold();
        numbersOfItems();
        homes();
        shareAndGrows();
        names();
        lawGrammar();
        partsWithin();
        lawValues();
        lawWraps();
        lawCut();
        withoutGrows();
        faultPlaces();
        faultFirstAndLeast();
        faultKinds();
        queueFromThenOn();
        queueFaultLeavesAll();
        workLines();
        workFaultKinds();
        workStays();
        Check.end("ToldEdgesTest");
    }

    // ---- of use to several ----

    private static String cutOutMark(String marked) {
        int place = marked.indexOf('|');
        return marked.substring(0, place) + marked.substring(place + 1);
    }

    /** The TOKEN behind the sign "|" is wrong by this kind. */
    private static void fault(int kind, String marked) {
        String text = cutOutMark(marked);
        Check.same("queue() of " + text, Check.queue(new RaisedQueue(), text), kind + 16 * marked.indexOf('|'));
    }

    private static RaisedQueue fine(String text) {
        return Check.told(text);
    }

    private static void workFault(int kind, String marked) {
        String text = cutOutMark(marked);
        Check.same("work() of " + text, Check.work(fine(HELD), text), kind + 16 * marked.indexOf('|'));
    }

    private static void workFine(int lines, String text) {
        RaisedQueue x = fine(HELD);
        Check.same("work() of " + text, Check.work(x, text), 0);
        Check.same("lines of " + text, x.count(7), lines);
    }

    private static void blanks(RaisedQueue x, int many) {
        Check.write(x, " ".repeat(many));
    }

    private static long everyByte(int sign) {
        return sign * 0x0101010101010101L;
    }

    /** ITEMS of one KEY each, the first one's NAME ending in a, the next one's in b, ... */
    private static String items(int many, String heap) {
        StringBuilder text = new StringBuilder();
        for (int i = 0; i < many; i++) {
            text.append("item z").append((char) ('a' + i)).append(" plain 1 over 1 in ").append(heap).append(';');
        }
        return text.toString();
    }

    /** What comes of an E: the TARGET of a NODE of RANK 1 over two of TARGET 1, of two ITEMS, share as it is untold. */
    private static int grown(String law) {
        return fine("heap a; grows " + law + "; item b plain 1 over 1 in a; item c plain 2 over 1 in a;").tree(0, 0, 1);
    }

    private static void grows(int due, String law) {
        Check.same("grows " + law, grown(law), due);
    }

    private static boolean isLetterOrDigit(int sign) {
        return sign >= 'a' && sign <= 'z' || sign >= '0' && sign <= '9';
    }

    // ---- Promise 1 ----

    private static void newObject() {
        Check.heading("Promise 1, RaisedQueue()", "Nothing.");
        RaisedQueue x = new RaisedQueue();
        for (int what = 0; what <= 10; what++) {
            Check.same("count " + what, x.count(what), what == 3 ? 2 : 0);
        }
        Check.same("NONE", RaisedQueue.NONE, -1);
        Check.heading("Promise 1, RaisedQueue()", "At first: nothing.");
        everyAnswerOfNothing(x);
        Check.same("an empty TAPE, told as a QUEUE, is nothing, too", x.queue(), 0);
        everyAnswerOfNothing(x);
        Check.same("a QUEUE is something", Check.queue(x, "heap a; item b plain 3 over 1 in a;"), 0);
        Check.same("its item", x.item(0, 0), 0);
        Check.same("its heap", x.heap(0, 0), 1);
        Check.same("its tree", x.tree(0, 0, 0), 0);
        Check.same("its first", x.first(0), 0);
        Check.same("its who", x.who(), 1);
    }

    private static void everyAnswerOfNothing(RaisedQueue x) {
        Check.same("item", x.item(0, 0), -2);
        Check.same("heap", x.heap(0, 0), -2);
        Check.same("tree", x.tree(0, 0, 0), NONE);
        Check.same("listed", x.listed(0, 0, 0), NONE);
        Check.same("shelf", x.shelf(0), NONE);
        Check.same("put", x.put(0, 0), false);
        Check.same("take", x.take(0), NONE);
        Check.same("meld", x.meld(0, 1), false);
        Check.same("shelve", x.shelve(0, 0), NONE);
        Check.same("undo", x.undo(), false);
        Check.same("judged 0", x.judged(0), NONE);
        Check.same("judged 1", x.judged(1), 0);
        Check.same("judged 2", x.judged(2), 0);
        Check.same("first", x.first(0), NONE);
        Check.same("wrongs", x.wrongs(0), NONE);
        Check.same("far", x.far(0), NONE);
        Check.same("select", x.select(0, 0), NONE);
        Check.same("split", x.split(0, 0), NONE);
        Check.same("steps", x.steps(0, 0), NONE);
        Check.same("worth", x.worth(0), NONE);
        Check.same("mean", x.mean(0), NONE);
        Check.same("bits", x.bits(0), NONE);
        Check.same("thousand", x.thousand(0), NONE);
        Check.same("lift", x.lift(0), NONE);
        Check.same("bound", x.bound(0), false);
        Check.same("depth", x.depth(0), NONE);
        Check.same("who", x.who(), 0);
        Check.same("ask", x.ask(), NONE);
        Check.same("days, could", x.days(0, 1, 0), 0);
        Check.same("days, RAISED", x.days(0, 1, 1), 0);
        Check.same("days, FLOOR", x.days(0, 1, 2), 0);
        Check.same("mark 0 back", x.mark(0, true), false);
        Check.same("mark 1 back", x.mark(1, true), false);
        throwsOfNothing(x);
    }

    private static void throwsOfNothing(RaisedQueue x) {
        boolean comes = false;
        boolean away = false;
        try {
            x.comes(0, 0);
        } catch (NoSuchElementException e) {
            comes = true;
        }
        try {
            x.away(0, 0);
        } catch (NoSuchElementException e) {
            away = true;
        }
        Check.same("comes throws", comes, true);
        Check.same("away throws", away, true);
    }

    // ---- Promise 2, and what the TAPE holds ----

    private static void feedSigns() {
        Check.heading(FEED, "Up to 24 signs come behind the TAPE");
        for (int i = 0; i < 24; i++) {
            long[] words = {0, 0, 0};
            words[i / 8] = 32L << 56 - 8 * (i % 8);
            Check.same("one sign at " + i, new RaisedQueue().feed(words[0], words[1], words[2]), 1);
        }
        RaisedQueue x = new RaisedQueue();
        Check.same("none", x.feed(0, 0, 0), 0);
        Check.same("24", x.feed(everyByte(32), everyByte(32), everyByte(32)), 24);
        Check.same("23 behind these", x.feed(everyByte(32), everyByte(32), everyByte(32) << 8), 47);
        Check.same("none behind these", x.feed(0, 0, 0), 47);

        Check.heading(FEED, "the bytes of a, b, c, of each the highest first");
        String text = "heap abcdefgh;heap b;\n  ";
        RaisedQueue y = new RaisedQueue();
        y.feed(Check.bytes(text, 0), Check.bytes(text, 8), Check.bytes(text, 16));
        Check.same("in this order it is a QUEUE", y.queue(), 0);
        Check.same("of two HEAPS", y.count(0), 2);
        y.feed(Check.bytes(text, 8), Check.bytes(text, 0), Check.bytes(text, 16));
        Check.same("b ahead of a: d.. is no line", y.queue(), 1);
        y.feed(Check.bytes(text, 0), Check.bytes(text, 16), Check.bytes(text, 8));
        Check.same("c ahead of b: the NAME abcap, then b where ; is due", y.queue(), 1 + 16 * 11);
        y.feed(Long.reverseBytes(Check.bytes("heap a;", 0)), 0, 0);
        Check.same("the lowest first is no QUEUE", y.queue(), 1);

        Check.heading(FEED, "others than 10 and 32 .. 126 [..] are left out");
        for (int sign = 0; sign < 256; sign++) {
            boolean stays = sign == 10 || sign >= 32 && sign <= 126;
            RaisedQueue z = new RaisedQueue();
            Check.same("sign " + sign + " in a", z.feed((long) sign << 56, 0, 0), stays ? 1 : 0);
            Check.same("sign " + sign + " in b", z.feed(0, (long) sign << 24, 0), stays ? 2 : 0);
            Check.same("sign " + sign + " in c", z.feed(0, 0, sign), stays ? 3 : 0);
        }
        for (int sign : new int[] {0, 1, 9, 11, 13, 31, 127, 128, 160, 255}) {
            RaisedQueue z = new RaisedQueue();
            z.feed(Check.bytes("he" + (char) sign + "ap a;", 0), 0, 0);
            Check.same("what is left out is no blank: " + sign, z.queue(), 0);
        }
        Check.same("a blank is one", Check.queue(new RaisedQueue(), "he ap a;"), 1);
    }

    private static void feedBeyond() {
        Check.heading(FEED, "what is beyond 1,000, are left out: how many there are");
        RaisedQueue x = new RaisedQueue();
        blanks(x, 999);
        Check.same("999", x.count(10), 999);
        Check.same("signs that are left out take no room", x.feed(everyByte(9), everyByte(255), 0), 999);
        Check.same("the 1,000th", x.feed(32, 0, 0), 1000);
        Check.same("the 1,001st", x.feed(32, 0, 0), 1000);
        Check.same("24 more", x.feed(everyByte(59), everyByte(59), everyByte(59)), 1000);
        Check.same("all of them are blanks", x.queue(), 0);
        RaisedQueue y = new RaisedQueue();
        blanks(y, 993);
        Check.same("to the last sign", y.feed(Check.bytes("heap a;;", 0), everyByte(59), 0), 1000);
        Check.same("what fits is read, the rest is left out", y.queue(), 0);
        Check.same("one HEAP", y.count(0), 1);
        blanks(y, 994);
        Check.same("one sign too many", y.feed(Check.bytes("heap a;", 0), 0, 0), 1000);
        Check.same("the last sign is left out: the end is wrong", y.queue(), 1 + 16 * 1000);
        Check.same("as it is without it", Check.queue(y, "heap a"), 1 + 16 * 6);
    }

    private static void tapeIsTaken() {
        Check.heading("Promises 3 and 4, queue, work", "what reads it takes it: it is empty then");
        RaisedQueue x = new RaisedQueue();
        Check.same("a QUEUE", Check.queue(x, "heap a;"), 0);
        Check.same("taken", x.count(10), 0);
        Check.same("taken: what is fed next is first", x.feed(32, 0, 0), 1);
        Check.same("a QUEUE with a FAULT", Check.queue(x, "heap 1;"), 1 + 16 * 6);
        Check.same("taken behind a FAULT of a QUEUE", x.count(10), 0);
        Check.same("a WORK", Check.work(x, "take a;"), 0);
        Check.same("taken by a WORK", x.count(10), 0);
        Check.same("a WORK with a FAULT", Check.work(x, "take a; heap"), 1 + 16 * 8);
        Check.same("taken behind a FAULT of a WORK", x.count(10), 0);
        Check.write(x, "take a;");
        x.take(0);
        x.judged(0);
        x.mark(0, false);
        x.undo();
        x.mark(0, true);
        Check.same("all else leaves it", x.count(10), 7);
        Check.same("and it is read then", x.work(), 0);
        Check.write(x, "heap b");
        Check.write(x, "c; heap");
        Check.write(x, " b;");
        Check.same("what is fed in parts is one text", x.queue(), 0);
        Check.same("bc and b", x.count(0), 2);
    }

    // ---- Promise 3: TOKENS ----

    private static void tokens() {
        Check.heading(QUEUE, "TOKENS, each as long as can be");
        fault(1, "|heapa;");
        fine("heap a;");
        fine("heap ab; heap a; heap b;");
        fault(1, "heap a; |heapb;");
        fault(4, "share |12;");
        fine("share 1;");
        fault(1, "grows |notrank;");
        fine("grows not rank;");
        fault(1, "grows 1 |andrank;");
        fine("grows 1and rank;");

        Check.heading(QUEUE, "blanks (10, 32) between where one likes");
        fine("heap a;shelf s odd;item i plain 1over 2in a;share3;grows(rank+1)*2<3and not(4)or 5-6=all;");
        fine(" \n heap\na\n;\n\nshelf   s\n odd ; item i\nplain\n1\nover\n2\nin\na\n;\nshare\n3\n;\ngrows\n( 1\n)\n;\n ");
        fault(1, "|he ap a;");
        fault(1, "heap a |b;");
        fault(1, "heap a\n|b;");
        fault(1, "share 0 |6;");
        fault(1, "share 0\n|6;");

        Check.heading(QUEUE, "All else (a longer WORD or NUMBER, too, at its first sign) is none.");
        fault(1, "heap |abcdefghijklmnop;");
        fault(1, "heap |abcdefghijklmnopq;");
        fault(1, "|heapheapheap;");
        fault(1, "share |000000;");
        fault(1, "heap |Ab;");
        fault(1, "heap a|B;");
        fault(1, "heap |\"a\";");
        fault(1, "heap a; |#");
    }

    private static void wordsAndNumbers() {
        Check.heading(QUEUE, "WORDS (letters a .. z, 8 at most)");
        for (char letter = 'a'; letter <= 'z'; letter++) {
            fine("heap " + letter + ";");
            fine("heap abcdefg" + letter + ";");
            fault(1, "heap |abcdefgh" + letter + ";");
        }
        for (char sign : "`{AZ@[_'".toCharArray()) {
            fault(1, "heap |" + sign + ";");
            fault(1, "heap a|" + sign + ";");
        }
        fine("heap urgently; heap heapheap;");

        Check.heading(QUEUE, "NUMBERS (1 to 4 digits");
        for (char digit = '0'; digit <= '9'; digit++) {
            fine("grows " + digit + ";");
            fine("grows 123" + digit + ";");
            fault(1, "grows |1234" + digit + ";");
        }
        fault(1, "grows |/;");
        fault(1, "grows |:;");
        fault(1, "grows 1|/;");
        fault(1, "grows 1|:;");
        Check.same("0006 is 6", fine("share 0006;").count(3), 6);
        fault(1, "share |00006;");
        Check.same("0999 over 0099 is 999 over 99",
            fine("heap a; item i plain 0999 over 0099 in a;").bits(0), Float.floatToIntBits(999f / 99f));
        fault(1, "heap a; item i plain |00999 over 99 in a;");
        fault(1, "heap a; item i plain 999 over |00099 in a;");

        Check.heading(QUEUE, "a letter may stand right behind)");
        fine("heap a; item i plain 1over 1in a;");
        fine("heap a; item i plain 0999over 0099in a;");
        fault(1, "heap a; item i plain |00999over 1in a;");
        fault(1, "heap a; item i plain 1|overt 1in a;");
        fine("grows 9999and 1or 2;");
    }

    private static void signs() {
        Check.heading(QUEUE, "the signs ( ) < = + - * ;");
        fine("grows (1);");
        for (char sign : "<=+-*".toCharArray()) {
            fine("grows 1" + sign + "2;");
            fine("grows 1 " + sign + " 2;");
        }
        for (char sign = 33; sign <= 126; sign++) {
            if (!isLetterOrDigit(sign) && SIGNS.indexOf(sign) < 0) {
                for (String text : new String[] {"|" + sign, "grows 1 |" + sign + "2;", "heap |" + sign + ";",
                    "heap a|" + sign, "grows |" + sign + "1;"}) {
                    int place = text.indexOf('|');
                    Check.same("sign " + (int) sign, Check.queue(new RaisedQueue(),
                        text.substring(0, place) + text.substring(place + 1)), 1 + 16 * place);
                }
            }
        }
        for (char sign : SIGNS.toCharArray()) {
            fault(1, "|" + sign);
            fault(1, "heap |" + sign + ";");
        }
    }

    // ---- Promise 3: what a QUEUE may be ----

    private static void howManyAreTold() {
        Check.heading(QUEUE, "QUEUE: any number of");
        Check.same("none", fine("").count(0), 0);
        Check.same("none but blanks", fine(" \n").count(0), 0);
        fine("share 0;");
        RaisedQueue all = fine("grows 1;shelf s odd;share 6;heap a;" + items(7, "a") + "shelf t odd;heap b;"
            + items(20, "b").substring(items(7, "b").length()) + "heap c;");
        Check.same("HEAPS", all.count(0), 3);
        Check.same("SHELVES", all.count(1), 2);
        Check.same("ITEMS", all.count(2), 20);

        Check.heading(QUEUE, "heap: 3 at most, numbered as told");
        RaisedQueue x = fine("heap c; heap b; heap a; item i plain 1 over 1 in a; item j plain 1 over 1 in b;"
            + " item k plain 1 over 1 in c;");
        Check.same("3", x.count(0), 3);
        Check.same("the last one told", x.item(0, 1), 2);
        Check.same("the one between", x.item(1, 1), 1);
        Check.same("the first one told", x.item(2, 1), 0);
        fault(5, "heap c; heap b; heap a; |heap d;");
        fault(5, "heap c; heap b; heap a; share 1; |heap d;");

        Check.heading(QUEUE, "shelf: 2 at most");
        RaisedQueue y = fine("heap a; shelf t odd; shelf s plain; item i plain 1 over 1 in a; item j plain 1 over 1 in a;");
        Check.same("2", y.count(1), 2);
        Check.same("numbered as told: 0 is odd", y.shelve(0, 0), 0);
        Check.same("numbered as told: 1 is plain", y.shelve(0, 1), 1);
        fault(5, "shelf a odd; shelf b odd; |shelf c odd;");
        fault(5, "shelf a odd; heap h; shelf b odd; heap i; |shelf c odd;");

        Check.heading(QUEUE, "KIND: plain, urgent, late, odd");
        String[] kinds = {"plain", "urgent", "late", "odd"};
        for (int kind = 0; kind < 4; kind++) {
            RaisedQueue z = fine("heap a; shelf s " + kinds[kind] + "; item i " + kinds[kind] + " 1 over 1 in a;");
            Check.same(kinds[kind], z.item(0, 0), kind);
            Check.same("a SHELF of " + kinds[kind], z.shelve(0, 0), 1);
        }
        for (String word : new String[] {"plai", "plaine", "urgen", "lates", "od", "odds", "rank", "s", "1", ";", "heap"}) {
            fault(1, "shelf s |" + word + ";");
            fault(1, "heap a; item i |" + word + " 1 over 1 in a;");
        }
        for (String word : RESERVED) {
            if (!List.of(kinds).contains(word)) {
                fault(1, "shelf s |" + word + ";");
                fault(1, "heap a; item i |" + word + " 1 over 1 in a;");
            }
        }
        fault(1, "shelf s |target;");
        fault(1, "shelf s |all;");

        Check.heading(QUEUE, "item: 20 at most, numbered as told");
        RaisedQueue full = fine("heap a;" + items(19, "a") + "item y odd 4 over 1 in a;");
        Check.same("20", full.count(2), 20);
        Check.same("the last one told", full.item(19, 0), 3);
        Check.same("the one ahead of it", full.item(18, 0), 0);
        Check.same("no 21st", full.item(20, 0), -2);
        fault(5, "heap a;" + items(20, "a") + "|item y odd 4 over 1 in a;");
    }

    private static void numbersOfItems() {
        Check.heading(QUEUE, "0 to 999 over 1 to 99");
        Check.same("0 over 1", fine("heap a; item i plain 0 over 1 in a;").bits(0), 0);
        Check.same("999 over 1", fine("heap a; item i plain 999 over 1 in a;").bits(0), Float.floatToIntBits(999f));
        Check.same("1 over 99", fine("heap a; item i plain 1 over 99 in a;").bits(0), Float.floatToIntBits(1f / 99f));
        Check.same("0 over 99", fine("heap a; item i plain 0 over 99 in a;").bits(0), 0);
        fault(4, "heap a; item i plain |1000 over 1 in a;");
        fault(4, "heap a; item i plain |9999 over 1 in a;");
        fault(4, "heap a; item i plain 1 over |0 in a;");
        fault(4, "heap a; item i plain 0 over |0000 in a;");
        fault(4, "heap a; item i plain 1 over |100 in a;");
        fault(4, "heap a; item i plain 1 over |9999 in a;");
    }

    private static void homes() {
        Check.heading(QUEUE, "in a HEAP told");
        Check.same("the last one told", fine("heap a; heap b; item i plain 1 over 1 in b;").item(0, 1), 1);
        fault(2, "heap a; item i plain 1 over 1 in |b;");
        fault(2, "item i plain 1 over 1 in |b; heap b;");
        fault(2, "heap a; item i plain 1 over 1 in |i;");
        fault(2, "heap a; shelf s odd; item i plain 1 over 1 in |s;");
        fault(2, "heap a; item i plain 1 over 1 in a; item j plain 1 over 1 in |i;");
        fault(1, "heap a; item i plain 1 over 1 in |in;");
    }

    private static void shareAndGrows() {
        Check.heading(QUEUE, "share 0 to 6 (2)");
        Check.same("without share", fine("heap a;").count(3), 2);
        for (int share = 0; share <= 6; share++) {
            Check.same("share " + share, fine("share " + share + ";").count(3), share);
        }
        fault(4, "share |7;");
        fault(4, "share |9999;");
        fault(1, "share |;");
        fault(1, "share |- 1;");

        Check.heading(QUEUE, "share, grows: once each");
        fine("share 1; grows 1;");
        fine("grows 1; share 1;");
        fault(3, "share 1; |share 1;");
        fault(3, "share 1; grows 1; |share 2;");
        fault(3, "grows 1; |grows 1;");
        fault(3, "grows 1; share 1; |grows 2;");
        RaisedQueue x = fine("share 1; grows 1;");
        Check.same("once each in the next QUEUE, too", Check.queue(x, "share 3; grows 2;"), 0);
        Check.same("which is told then", x.count(3), 3);
    }

    private static void names() {
        Check.heading(QUEUE, "A NAME is another WORD than heap, shelf, item, over, in, share, grows, put, take, meld,"
            + " shelve, the KINDS, not, and, or");
        for (String word : RESERVED) {
            fault(1, "heap |" + word + ";");
            fault(1, "shelf |" + word + " odd;");
            fault(1, "heap a; item |" + word + " odd 1 over 1 in a;");
            fine("heap " + word + "s; shelf " + word + "t odd; item " + word + "u odd 1 over 1 in " + word + "s;");
            fine("heap " + word.substring(1) + "q;");
        }
        fine("heap rank; shelf target odd; item all odd 1 over 1 in rank;");
        fine("heap queue; heap work; heap e;");
        fault(1, "heap |1;");
        fault(1, "heap |;");

        Check.heading(QUEUE, "no two (HEAPS, SHELVES, ITEMS) are alike");
        fault(3, "heap a; heap |a;");
        fault(3, "heap a; shelf |a odd;");
        fault(3, "heap a; item |a odd 1 over 1 in a;");
        fault(3, "shelf a odd; shelf |a late;");
        fault(3, "shelf a odd; heap |a;");
        fault(3, "heap h; shelf a odd; item |a odd 1 over 1 in h;");
        fault(3, "heap h; item a odd 1 over 1 in h; item |a odd 1 over 1 in h;");
        fault(3, "heap h; item a odd 1 over 1 in h; heap |a;");
        fault(3, "heap h; item a odd 1 over 1 in h; shelf |a odd;");
        fault(3, "heap h;" + items(19, "h") + "item |za odd 1 over 1 in h;");
        fault(3, "heap h;" + items(19, "h") + "item |zs odd 1 over 1 in h;");
        fine("heap abcdefgh; heap abcdefgi; heap bbcdefgh; shelf abcdefg odd; shelf a odd;");
    }

    // ---- Promise 3: E ----

    private static void lawGrammar() {
        Check.heading(QUEUE, "E: TEST { and TEST or or TEST }, from the left");
        grows(6, "5 + (0 and 0 or 1)");
        grows(5, "5 + (1 or 0 and 0)");
        grows(5, "5 + (1 or 1 and 0)");
        grows(6, "5 + (1 and 0 or 2 and 3)");
        fault(1, "grows |and 1;");
        fault(1, "grows 1 and |;");
        fault(1, "grows 1 or |or 1;");
        fault(1, "grows 1 or |and 1;");
        fault(1, "grows |;");
        fault(1, "grows|");

        Check.heading(QUEUE, "TEST: SUM, or SUM < SUM, or SUM = SUM");
        fine("grows 1 < 2;");
        fine("grows 1 = 2;");
        fault(1, "grows 1 < 2 |< 3;");
        fault(1, "grows 1 < 2 |= 3;");
        fault(1, "grows 1 = 2 |< 3;");
        fault(1, "grows 1 = 2 + 3 * 4 |= 5;");
        fine("grows 1 < 2 and 3 = 4 or 5 < 6;");
        fault(1, "grows 1 < 2 and 3 = 4 |< 5;");
        fine("grows (1 < 2) = (3 = 4);");
        fault(1, "grows 1 < |< 2;");
        fault(1, "grows 1 |> 2;");
        grows(6, "5 + (1 + 1 < 3)");
        grows(5, "5 + (3 < 1 + 2)");

        Check.heading(QUEUE, "SUM: PRODUCT { + or - PRODUCT }; PRODUCT: PART { * PART }");
        grows(4, "9 - 3 - 2");
        grows(8, "9 - (3 - 2)");
        grows(24, "2 * 3 * 4");
        grows(7, "1 + 2 * 3");
        grows(9, "(1 + 2) * 3");
        grows(3, "1 + 2 * 3 - 4");
        fault(1, "grows |- 1;");
        fault(1, "grows |+ 1;");
        fault(1, "grows |* 1;");
        fault(1, "grows 1 + |;");
        fault(1, "grows 1 - |- 1;");
        fault(1, "grows 1 * |* 1;");
        fault(1, "grows 1 |1;");
        Check.same("as long as the TAPE has room", grown("1" + "+1".repeat(97)), 98);

        Check.heading(QUEUE, "PART: a NUMBER, a fact, not PART, ( E )");
        fault(1, "grows |a;");
        fault(1, "heap a; grows |a;");
        for (String word : RESERVED) {
            if (!word.equals("share") && !word.equals("not")) {
                fault(1, "grows |" + word + ";");
                fault(1, "grows 1 + |" + word + ";");
            }
        }
        fault(1, "grows |ranks;");
        fault(1, "grows not |;");
        fault(1, "grows 1 |not 1;");
        fault(1, "grows 1 |(1);");
        fault(1, "grows (|);");
        fault(1, "grows (1|;");
        fault(1, "grows (1|");
        fault(1, "grows 1|);");
        fault(1, "grows (1)|);");
        grows(6, "not 0 + 5");
        grows(7, "not 0 * 7");
        grows(2, "1 + (not 0 = 1)");
        grows(6, "5 + not (0)");
        grows(7, "not (0) * 7");
        grows(7, "not (1 = 2) + 6");
        grows(9, "not (not (0 + 1)) + (2 + 3) * 2 - 2");
        grows(8, "not not (7) * 3 + 5");
    }

    private static void partsWithin() {
        Check.heading(QUEUE, "no PART lies within 5 of not and ( )");
        fine("grows not not not not 1;");
        fault(5, "grows not not not not not |1;");
        fine("grows ((((1))));");
        fault(5, "grows (((((|1)))));");
        fine("grows not(not(rank));");
        fine("grows not (not (1 + all));");
        fault(5, "grows (not (not (|1)));");
        fault(5, "grows not (not (not |rank));");
        fine("grows ((((1)))) + not not not not 2 + ((((3))));");
        fault(5, "grows ((((1 * (|2)))));");
        fault(5, "grows ((((1 * not |2))));");
        fine("grows (((1))) and (((not 1))) and not ((not 1));");
        fine("grows not (1) + not (1) + not (1) + not (1) + not (1) + not (1);");
        fine("grows (1) + (1) + (1) + (1) + (1) + (1) + not 1 + not 1 + not 1 + not 1 + not 1;");
        RaisedQueue x = new RaisedQueue();
        for (int i = 0; i < 6; i++) {
            Check.same("an E cut off", Check.queue(x, "grows ((not (1"), 1 + 16 * 14);
            Check.same("is not within the next one", Check.queue(x, "grows ((((1))));"), 0);
            Check.same("an E cut off", Check.queue(x, "grows 1 + (not"), 1 + 16 * 14);
            Check.same("opens nothing in the next one", Check.queue(x, "grows 1);"), 1 + 16 * 7);
            Check.same("an E cut off behind a sign", Check.queue(x, "grows 7 *"), 1 + 16 * 9);
            Check.same("leaves no sign", Check.queue(x, "heap a; grows 1 + 3;" + items(2, "a")), 0);
            Check.same("the next one's TARGET", x.tree(0, 0, 1), 4);
        }

        Check.heading(QUEUE, "5 one too many: [..] not, or a PART, within 5 others");
        fault(5, "grows not not not not not |not 1;");
        fault(5, "grows not not not not not |(1);");
        fault(5, "grows (((((|(1))))));");
        fault(5, "grows (((((|not 1)))));");
        fault(5, "grows (((((|rank)))));");
        fault(5, "grows (((((|share < 1)))));");
        fault(1, "grows (((((|a)))));");
        fault(1, "grows (((((|)))));");
        fault(1, "grows (((((|+ 1)))));");
        fault(1, "grows not not not not not |;");
        fault(1, "grows not not not not not |");
        fault(1, "grows not not not not not |12345;");
        fault(1, "grows ((((|;");
    }

    private static void lawValues() {
        Check.heading(QUEUE, "Facts: rank (of the new NODE)");
        String four = "; item i plain 1 over 1 in a; item j plain 2 over 1 in a; item k plain 3 over 1 in a;"
            + " item l plain 4 over 1 in a;";
        grows(11, "10 + rank");
        Check.same("RANK 2", fine("heap a; grows 10 + rank" + four).tree(0, 0, 1), 12);

        Check.heading(QUEUE, "target (the greater one of its CHILDREN's)");
        grows(11, "10 + target");
        // of RANK 1: 1 + 2, then 1 + 4; the second one's is the greater one
        Check.same("the second one's", fine("heap a; grows target + all" + four).tree(0, 0, 1), 9);
        // of RANK 1: 1 + 9 - 2, then 1 + 9 - 4; the first one's is the greater one
        Check.same("the first one's", fine("heap a; grows target + 9 - all" + four).tree(0, 0, 1), 13);

        Check.heading(QUEUE, "share");
        grows(12, "10 + share");
        Check.same("share told behind it", fine("heap a; grows 10 + share" + four + " share 6;").tree(0, 0, 1), 16);

        Check.heading(QUEUE, "all (how many ITEMS the HEAP has, with those of TREES JOINED ahead and of the one that is"
            + " JOINED)");
        grows(12, "10 + all");
        // the third ITEM takes its place alone: the TARGET of RANK 1 is by the first two
        RaisedQueue x = fine("heap a; heap b; grows 10 + all" + four + " item m plain 5 over 1 in a;"
            + " item n plain 6 over 1 in b; item o plain 7 over 1 in b; item p plain 8 over 1 in b;");
        Check.same("RANK 2 of four", x.tree(0, 1, 1), 14);
        Check.same("RANK 1 of the other HEAP", x.tree(1, 1, 1), 12);
        // p of RANK 0 and m: 5 and 1; then n, o of RANK 1 are JOINED to that: 6 and 2; then that to RANK 2
        Check.same("MELD", x.meld(1, 0), true);
        Check.same("of one TREE", x.heap(0, 1), 1);
        Check.same("RANK 3 of all", x.tree(0, 0, 0), 3);
        Check.same("TARGET by all", x.tree(0, 0, 1), 18);
        RaisedQueue y = fine("heap a; heap b; grows 10 + all; item i plain 1 over 1 in a; item j plain 2 over 1 in b;"
            + " item k plain 3 over 1 in b; item l plain 4 over 1 in b;");
        // l of RANK 0 is JOINED first: that has 2, the two of RANK 1 are not counted yet
        Check.same("k, j not yet", fine("heap a; heap b; grows (all = 2) * 20 + (all = 4) * 40; item i plain 1 over 1 in a;"
            + " item j plain 2 over 1 in b; item k plain 3 over 1 in b; item l plain 4 over 1 in b;").tree(1, 1, 1), 20);
        Check.same("MELD", y.meld(1, 0), true);
        Check.same("RANK 2", y.tree(0, 0, 0), 2);
        Check.same("TARGET by four", y.tree(0, 0, 1), 14);
        RaisedQueue z = fine("heap a; heap b; grows 10 + all; item i plain 1 over 1 in a; item j plain 2 over 1 in b;"
            + " item m plain 2 over 1 in b; item k plain 3 over 1 in b; item l plain 4 over 1 in b; item n plain 4 over 1 in b;");
        // n of RANK 0 is JOINED first, to i: 2; those of the TREE of RANK 2 come behind it and meet none of their RANK
        Check.same("MELD", z.meld(1, 0), true);
        Check.same("RANK 1: two, not all six", z.tree(0, 0, 1), 12);
        Check.same("RANK 2 as it was", z.tree(0, 1, 1), 14);
    }

    private static void lawWraps() {
        Check.heading(QUEUE, "Of not, and, or, < and = comes 1 or 0; what is not 0 is so");
        grows(6, "5 + (2 and 3)");
        grows(5, "5 + (2 and 0)");
        grows(5, "5 + (0 and 3)");
        grows(6, "5 + (0 or 3)");
        grows(6, "5 + (3 or 0)");
        grows(5, "5 + (0 or 0)");
        grows(6, "5 + (0 - 1 and 0 - 1)");
        grows(6, "5 + (0 - 1 or 0)");
        grows(6, "5 + not 0");
        grows(5, "5 + not 1");
        grows(5, "5 + not 2");
        grows(5, "5 + not (0 - 1)");
        grows(6, "5 + not not 7");
        grows(6, "5 + (7 < 8)");
        grows(5, "5 + (8 < 8)");
        grows(5, "5 + (9 < 8)");
        grows(5, "5 + (7 = 8)");
        grows(6, "5 + (8 = 8)");
        grows(6, "5 + (0 - 1 < 0)");

        Check.heading(QUEUE, "ints wrap");
        String half = "256 * 256 * 256 * 128";
        grows(6, "5 + (" + half + " < 0)");
        grows(6, "5 + (0 < " + half + " - 1)");
        grows(6, "5 + (0 - " + half + " = " + half + ")");
        grows(6, "5 + (256 * 256 * 256 * 256 = 0)");
        grows(6, "5 + (256 * 256 * 256 * 127 + 256 * 256 * 255 + 256 * 255 + 255 + 1 < 0)");
        grows(5, "5 + (256 * 256 * 256 * 127 + 256 * 256 * 255 + 256 * 255 + 255 < 0)");
        grows(7, half + " * 2 + 7");
        grows(9, "(" + half + " + 4) * 2 + 1");
    }

    private static void lawCut() {
        Check.heading(QUEUE, "its TARGET the E of grows (1 to 99)");
        grows(1, "0");
        grows(1, "1");
        grows(2, "2");
        grows(98, "98");
        grows(99, "99");
        grows(99, "100");
        grows(99, "9999");
        grows(1, "0 - 1");
        grows(1, "0 - 9999");
        grows(1, "256 * 256 * 256 * 128");
        grows(99, "256 * 256 * 256 * 128 - 1");
        // the cut one is the CHILDREN's: of RANK 1 99, so of RANK 2 98
        Check.same("what is above it reckons with the cut one", fine("heap a; grows (rank = 1) * 200 + (rank = 2) * (target - 1);"
            + items(4, "a")).tree(0, 0, 1), 98);
    }

    /**
     * Twenty ITEMS of one KEY; 16 are PUT into HEAP 0, again and again. Of equal CKEYS the least RANK comes: all but
     * one ITEM of each TREE that is kept are TAKEN ahead of the next 16. The RANK is 4, 5, 6, 7 by 1, 2, 4, 8 times.
     */
    private static RaisedQueue grownTall(int share, int times) {
        RaisedQueue x = fine("heap a; heap b; share " + share + ";" + items(16, "a")
            + items(20, "b").substring(items(16, "b").length()));
        boolean[] out = new boolean[20];
        for (int item = x.take(1); item != NONE; item = x.take(1)) {
            out[item] = true;
        }
        int in = 16;
        for (int time = 1; time < times; time++) {
            for (; in > Integer.bitCount(time); in--) {
                out[x.take(0)] = true;
            }
            int more = 16;
            for (int i = 0; i < 20 && more > 0; i++) {
                if (out[i]) {
                    Check.same("PUT", x.put(i, 0), true);
                    out[i] = false;
                    more--;
                    in++;
                }
            }
        }
        return x;
    }

    private static void withoutGrows() {
        Check.heading(QUEUE, "Without grows: 1 if rank is share or less, else half (cut) of 3 times target and 1.");
        int[] beyond = {1, 2, 3, 5, 8, 12};
        for (int share = 0; share <= 6; share++) {
            for (int rank = 1; rank <= 4; rank++) {
                RaisedQueue x = fine("heap a; share " + share + ";" + items(1 << rank, "a"));
                Check.same("RANK of share " + share, x.tree(0, 0, 0), rank);
                Check.same("share " + share + ", rank " + rank, x.tree(0, 0, 1), beyond[Math.max(0, rank - share)]);
            }
        }
        for (int share = 3; share <= 6; share++) {
            for (int rank = 4; rank <= 7; rank++) {
                RaisedQueue x = grownTall(share, 1 << rank - 4);
                Check.same("one TREE", x.heap(0, 1), 1);
                Check.same("RANK of share " + share, x.tree(0, 0, 0), rank);
                Check.same("share " + share + ", rank " + rank, x.tree(0, 0, 1), beyond[Math.max(0, rank - share)]);
            }
        }
        Check.same("share untold, rank 2", fine("heap a;" + items(4, "a")).tree(0, 0, 1), 1);
        Check.same("share untold, rank 3", fine("heap a;" + items(8, "a")).tree(0, 0, 1), 2);
    }

    // ---- Promise 3: FAULTS ----

    private static void faultPlaces() {
        Check.heading(QUEUE, "FAULTS, kind + 16 * the place (from 0) of a token");
        fault(1, "|a");
        fault(1, " |a");
        fault(1, "\n\n  |a");
        fault(1, "share 1;|;");
        RaisedQueue x = new RaisedQueue();
        blanks(x, 999);
        Check.same("the last place of the TAPE", Check.queue(x, "a"), 1 + 16 * 999);

        Check.heading(QUEUE, "the end being one at the text's length");
        fault(1, "heap|");
        fault(1, "heap |");
        fault(1, "heap a|");
        fault(1, "heap a\n |");
        fault(1, "heap a; shelf s|");
        fault(1, "heap a; shelf s odd|");
        fault(1, "heap a; item|");
        fault(1, "heap a; item i|");
        fault(1, "heap a; item i odd|");
        fault(1, "heap a; item i odd 1|");
        fault(1, "heap a; item i odd 1 over|");
        fault(1, "heap a; item i odd 1 over 1|");
        fault(1, "heap a; item i odd 1 over 1 in|");
        fault(1, "heap a; item i odd 1 over 1 in a|");
        fault(1, "share|");
        fault(1, "share 1|");
        fault(1, "grows|");
        fault(1, "grows 1|");
        fault(1, "grows 1 +|");
        fault(1, "grows (1|");
        fault(1, "grows not|");
        fine("heap a;");
        fine("heap a; ");
        blanks(x, 994);
        Check.same("the end of a full TAPE", Check.queue(x, "heap a"), 1 + 16 * 1000);
        blanks(x, 994);
        Check.same("of what is beyond it nothing counts", Check.queue(x, "heap a 7 8 9"), 1 + 16 * 1000);
    }

    private static void faultFirstAndLeast() {
        Check.heading(QUEUE, "of the first token from the left that is wrong");
        fault(4, "heap a; item i odd |1000 over 100 in z");
        fault(3, "heap a; heap |a; heap 1; share 7;");
        fault(5, "heap a; heap b; heap c; |heap 1; share 7;");
        fault(2, "heap a; item i odd 1 over 1 in |z; heap a;");
        fault(1, "heap |1; heap a; heap a;");
        fault(1, "share |a; share 7;");

        Check.heading(QUEUE, "of the first token from the left that is wrong the least: 1 it is none, or can't stand there");
        fault(1, "heap a; heap b; heap c |heap d;");
        fault(1, "heap a; heap b; heap |heap;");
        fault(1, "heap a; heap b; heap c; |heaps d;");
        fault(1, "shelf a odd; shelf b odd |shelf c odd;");
        fault(1, "share 1 |share 1;");
        fault(1, "grows 1 |grows 1;");
        fault(1, "grows |grows 1;");
        fault(1, "heap a; shelf b |a;");
        fault(1, "heap a; item i odd 1 over 1 |1000 a;");
        fault(1, "heap |1000;");
        fault(1, "heap a;" + items(19, "a") + "item i odd 1 over 1 in |item j odd 1 over 1 in a;");
        fault(1, "heap a; item i odd |10000 over 1 in a;");
    }

    private static void faultKinds() {
        Check.heading(QUEUE, "1 it is none, or can't stand there");
        for (String word : new String[] {"over", "in", "plain", "urgent", "late", "odd", "not", "and", "or", "put", "take",
            "meld", "shelve", "rank", "all", "target", "a", "1", ";", "(", "*"}) {
            fault(1, "heap a; |" + word);
        }
        fault(1, "heap a; item i odd 1 |under 1 in a;");
        fault(1, "heap a; item i odd 1 |1 in a;");
        fault(1, "heap a; item i odd 1 over 1 |a;");
        fault(1, "heap a; item i odd |a over 1 in a;");
        fault(1, "heap a; item i odd 1 over |a in a;");
        fault(1, "heap a; item i odd 1 over 1 in |1;");
        fault(1, "heap a; item i odd 1 over 1 in a |odd;");
        fault(1, "heap a |odd;");
        fault(1, "heap a; item |1 odd 1 over 1 in a;");
        fault(1, "share 1 |1;");

        Check.heading(QUEUE, "2 a NAME of no HEAP (behind in [..]) told");
        fault(2, "item i odd 1 over 1 in |a;");
        fine("heap a; item i odd 1 over 1 in a;");

        Check.heading(QUEUE, "3 a NAME told already; [..] share, grows a second time");
        fault(3, "heap a; heap |a;");
        fine("heap a; heap b;");
        fault(3, "share 0; |share 9;");
        fault(3, "grows 1; |grows ;");

        Check.heading(QUEUE, "4 a NUMBER that is not as told");
        fault(4, "share |7;");
        fine("share 6;");
        fault(4, "heap a; item i odd |1000 over 1 in a;");
        fault(4, "heap a; item i odd 999 over |100 in a;");
        fine("heap a; item i odd 999 over 99 in a;");

        Check.heading(QUEUE, "5 one too many: the words heap of a fourth, shelf of a third, item of a 21st");
        fault(5, "heap a; heap b; heap c; |heap a;");
        fault(5, "heap a; heap b; heap c; |heap");
        fault(5, "shelf a odd; shelf b odd; |shelf");
        fault(5, "heap a;" + items(20, "a") + "|item");
        fine("heap a; heap b; heap c; shelf d odd; shelf e odd; " + items(20, "a"));
    }

    // ---- Promise 3: from then on ----

    private static RaisedQueue busy() {
        RaisedQueue x = fine("heap a; heap b; shelf s odd; share 3; grows 2;"
            + " item i odd 1 over 1 in a; item j plain 2 over 1 in a; item k plain 3 over 1 in b;");
        Check.same("a WORK", Check.work(x, "take a; take b;"), 0);
        Check.same("on the SHELF", x.shelve(0, 0), 1);
        Check.same("on the FLOOR", x.take(1), 2);
        Check.same("SEEN", x.see(0, 0, true), true);
        Check.same("SHUT", x.first(0), 1);
        Check.same("a MARK", x.mark(0, false), true);
        Check.same("a MARK", x.mark(1, false), true);
        return x;
    }

    private static void busyIs(RaisedQueue x, int[] counts) {
        for (int what = 0; what < counts.length; what++) {
            Check.same("count " + what, x.count(what), counts[what]);
        }
    }

    private static void queueFromThenOn() {
        Check.heading(QUEUE, "Without a FAULT a QUEUE is the QUEUE from then on: [..] SHELVES are empty, nothing lies on the"
            + " FLOOR, no WORK, nothing SEEN, nothing can be undone, nothing was SHUT, no MARK is there.");
        RaisedQueue x = busy();
        busyIs(x, new int[] {2, 1, 3, 3, 1, 0, 1, 2, 1, 2, 0});
        Check.same("the same again", Check.queue(x, "heap a; heap b; shelf s odd; share 3; grows 2;"
            + " item i odd 1 over 1 in a; item j plain 2 over 1 in a; item k plain 3 over 1 in b;"), 0);
        busyIs(x, new int[] {2, 1, 3, 3, 0, 1, 0, 0, 0, 0, 0});
        Check.same("the SHELF is empty", x.shelf(0), 0);
        Check.same("no SHELF of i", x.item(0, 2), NONE);
        Check.same("i is in its HEAP", x.item(0, 1), 0);
        Check.same("k is in its HEAP", x.item(2, 1), 1);
        Check.same("nothing can be undone", x.undo(), false);
        Check.same("no MARK 0", x.mark(0, true), false);
        Check.same("no MARK 1", x.mark(1, true), false);
        Check.same("no WORK", x.judged(0), NONE);
        Check.same("nothing SEEN", x.who(), 3);
        RaisedQueue y = busy();
        Check.same("a QUEUE of nothing", Check.queue(y, ""), 0);
        busyIs(y, new int[] {0, 0, 0, 2, 0, 0, 0, 0, 0, 0, 0});
        Check.same("an old ITEM is none", y.item(0, 0), -2);
        Check.same("an old NAME is none", Check.work(y, "take a;"), 2 + 16 * 5);
        Check.same("an old NAME is free", Check.queue(y, "heap i; heap s;" + items(4, "s")), 0);
        // three of RANK 1 by grows 2 would have a LIST of 2
        Check.same("no old grows", y.tree(1, 0, 1), 1);

        // of twenty RAISED but one, and some on SHELVES, one ITEM is left
        RaisedQueue many = fine("heap a; shelf s plain; share 0; grows 99;"
            + items(20, "a").replace("za plain 1", "za plain 0").replace("zq plain 1", "zq plain 0"));
        Check.same("RAISED", many.count(5), 2);
        Check.same("a WORK with a full SHELF", Check.work(many, "shelve a s; shelve a s; shelve a s; shelve a s;"), 0);
        Check.same("judged", many.judged(0), NONE);
        for (int i = 0; i < 4; i++) {
            Check.same("on the SHELF", many.shelve(0, 0), 1);
        }
        Check.same("a QUEUE of one ITEM", Check.queue(many, "heap a; heap b; shelf s plain; item i plain 5 over 1 in a;"), 0);
        Check.same("none RAISED", many.count(5), 0);
        Check.same("the SHELF is empty", many.shelf(0), 0);
        Check.same("none RAISED when judged", many.judged(2), 0);
        Check.same("none RAISED in days to come", many.days(0, 1, 1), 0);
        Check.same("shelve", many.shelve(0, 0), 1);
        Check.same("on the first place", many.item(0, 3), 0);
        Check.same("a WORK", Check.work(many, "shelve a s;"), 0);
        Check.same("none on the FLOOR", many.judged(1), 0);

        Check.heading(QUEUE, "its ITEMS were PUT into their HEAPS, one behind another, as told");
        // i, j: RANK 1 of all 2; k, l: RANK 1 of all 4, so RANK 2 of all 4
        RaisedQueue z = fine("heap a; heap b; grows all; item i plain 4 over 1 in a; item m plain 1 over 1 in b;"
            + " item j plain 3 over 1 in a; item k plain 2 over 1 in a;");
        Check.same("RANK 0", z.listed(0, 0, 0), 3);
        Check.same("RANK 1: the lesser KEY", z.listed(0, 1, 0), 2);
        Check.same("RANK 1: the other one", z.listed(0, 1, 1), 0);
        Check.same("RANK 1 by two ITEMS", z.tree(0, 1, 1), 2);
        Check.same("PUT can't be undone", z.count(9), 0);

        Check.heading(QUEUE, "(share, grows as they are at last)");
        String two = "heap a; item i plain 1 over 1 in a; item j plain 2 over 1 in a;";
        Check.same("without", fine(two).tree(0, 0, 1), 1);
        Check.same("grows at last", fine(two + "grows 7;").tree(0, 0, 1), 7);
        Check.same("share at last", fine(two + "share 0;").tree(0, 0, 1), 2);
        Check.same("share ahead", fine("share 0;" + two).tree(0, 0, 1), 2);
        Check.same("both at last", fine(two + "grows share * 9; share 5;").tree(0, 0, 1), 45);
    }

    private static void queueFaultLeavesAll() {
        Check.heading(QUEUE, "0, or its FAULT (all stays then)");
        for (String text : new String[] {"x", "heap z; share 1; heap", "heap y; heap z; item q odd 1 over 1 in x;",
            "share 1; share 1;", "heap w; heap x; heap y; heap z;", "grows 9; share 0; share 7;"}) {
            RaisedQueue x = busy();
            Check.write(x, text);
            Check.same("a FAULT: " + text, x.queue() != 0, true);
            busyIs(x, new int[] {2, 1, 3, 3, 1, 0, 1, 2, 1, 2, 0});
            Check.same("where i is", x.item(0, 2), 0);
            Check.same("where j is", x.listed(0, 0, 0), 1);
            Check.same("judged by the old WORK", x.judged(1), 2);
            Check.same("the old NAMES", Check.work(x, "meld a b; put i a; shelve b s;"), 0);
            Check.same("the old grows, by what was told", x.tree(0, 0, 1), 2);
            Check.same("put back", x.put(0, 0), true);
            Check.same("k put beside it", x.put(2, 0), true);
            Check.same("the old grows, by what is PUT: i, k and j JOINED to RANK 2", x.tree(0, 0, 1), 2);
            Check.same("RANK 2", x.tree(0, 0, 0), 2);
            Check.same("undone", x.undo(), true);
            Check.same("the MARK", x.mark(1, true), true);
        }
    }

    // ---- Promise 4 ----

    private static void workLines() {
        Check.heading(WORK, "WORK: any number of");
        workFine(0, "");
        workFine(0, "\n ");
        workFine(1, "take a;");
        workFine(4, "put i a;take b;meld a b;shelve b s;");

        Check.heading(WORK, "30 lines at most");
        workFine(29, "take a;".repeat(29));
        workFine(30, "take a;".repeat(30));
        workFine(30, "shelve a s;".repeat(30));
        workFault(5, "take a;".repeat(30) + "|take a;");
        workFault(5, "take a;".repeat(30) + "|put");
        workFault(5, "take a;".repeat(30) + "|meld a a;");
        workFault(5, "take a;".repeat(30) + "|shelve a s;");
        workFault(1, "take a;".repeat(30) + "|heap");
        workFault(1, "take a;".repeat(30) + "|a");
        workFault(1, "take a;".repeat(29) + "take a |take a;");

        Check.heading(WORK, "(an ITEM, a HEAP; a HEAP; two HEAPS, not the same; a HEAP, a SHELF)");
        workFine(1, "put i b;");
        workFine(1, "meld b a;");
        workFault(3, "meld a |a;");
        workFault(3, "meld b |b;");
        workFault(1, "put i |;");
        workFault(1, "take a |b;");
        workFault(1, "meld a |;");
        workFault(1, "shelve a s |s;");
        RaisedQueue one = fine("heap a; item i plain 1 over 1 in a;");
        Check.same("without another HEAP there is no MELD", Check.work(one, "meld a a;"), 3 + 16 * 7);
        Check.same("without a QUEUE there is no NAME", Check.work(new RaisedQueue(), "take a;"), 2 + 16 * 5);
        Check.same("without a QUEUE a WORK of nothing can be", Check.work(new RaisedQueue(), ""), 0);
    }

    private static void workFaultKinds() {
        Check.heading(WORK, "1 it is none, or can't stand there");
        for (String word : new String[] {"heap", "shelf", "item", "share", "grows", "over", "in", "odd", "not", "i", "pull",
            "1", ";", "(", "A", "puts", "takeshelf"}) {
            workFault(1, "|" + word + " a;");
            workFault(1, "take a; |" + word);
        }
        for (String word : RESERVED) {
            workFault(1, "put |" + word + " a;");
            workFault(1, "put i |" + word + ";");
            workFault(1, "take |" + word + ";");
            workFault(1, "meld |" + word + " b;");
            workFault(1, "meld a |" + word + ";");
            workFault(1, "shelve |" + word + " s;");
            workFault(1, "shelve a |" + word + ";");
        }
        workFault(1, "put |abcdefghi a;");
        workFault(1, "take |0;");

        Check.heading(WORK, "the end being one at the text's length");
        workFault(1, "take|");
        workFault(1, "take a|");
        workFault(1, "take a |");
        workFault(1, "put i|");
        workFault(1, "put i a|");
        workFault(1, "meld a b\n|");
        workFault(1, "shelve a s|");

        Check.heading(WORK, "2 a NAME of no HEAP (behind [..] take, meld, its second, shelve; the second of put), of no ITEM"
            + " (behind put), of no SHELF (the second of shelve) told");
        for (String other : new String[] {"s", "i", "z", "rank", "abcdefgh"}) {
            workFault(2, "take |" + other + ";");
            workFault(2, "meld |" + other + " a;");
            workFault(2, "meld a |" + other + ";");
            workFault(2, "shelve |" + other + " s;");
            workFault(2, "put i |" + other + ";");
        }
        for (String other : new String[] {"a", "b", "s", "z"}) {
            workFault(2, "put |" + other + " a;");
        }
        for (String other : new String[] {"a", "b", "i", "z"}) {
            workFault(2, "shelve a |" + other + ";");
        }
        workFault(2, "meld |z z;");
        workFine(4, "put i a; take a; meld a b; shelve a s;");

        Check.heading(WORK, "3 [..] the second one of meld that is the first one");
        workFault(3, "take a; meld b |b;");
        workFine(2, "meld a b; meld b a;");
    }

    private static void workStays() {
        Check.heading(WORK, "The TAPE is read as a WORK, likewise. (all stays then)");
        RaisedQueue x = busy();
        int[] counts = {2, 1, 3, 3, 1, 0, 1, 2, 1, 2, 0};
        for (String text : new String[] {"x", "take a; take z;", "take a; meld b b;", "take a; take b; take a; take"}) {
            Check.write(x, text);
            Check.same("a FAULT: " + text, x.work() != 0, true);
            busyIs(x, counts);
            Check.same("the old WORK is judged", x.judged(1), 2);
        }
        Check.heading(WORK, "A WORK is the WORK.");
        Check.same("another WORK", Check.work(x, "take a; take a; take a;"), 0);
        counts[7] = 3;
        busyIs(x, counts);
        Check.same("which is judged", x.judged(0), 2);
        Check.same("a WORK of nothing", Check.work(x, ""), 0);
        counts[7] = 0;
        busyIs(x, counts);
        Check.same("which is judged", x.judged(0), NONE);
        Check.same("a MARK is there still", x.mark(0, true), true);
    }
}
