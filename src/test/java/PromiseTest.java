import java.util.NoSuchElementException;

/** Each promise of the document by answers worked out by hand: ordinary inputs, edges, wrong inputs. */
public final class PromiseTest {
    private static final int NONE = RaisedQueue.NONE;

    // a: one TREE of RANK 2, LIST l k j i (0.5, 3, 5, 8), CKEY 8; b: one ITEM; c: o and n (5, 8) of RANK 1, p (7) of RANK 0
    private static final String RAISED = "heap a; heap b; heap c; shelf s urgent; shelf t plain; share 0;"
        + " item i plain 8 over 1 in a; item j urgent 10 over 1 in a; item k plain 3 over 1 in a;"
        + " item l odd 1 over 1 in a; item m late 0 over 1 in b;"
        + " item n plain 8 over 1 in c; item o plain 5 over 1 in c; item p plain 7 over 1 in c;";
    private static final int I = 0;
    private static final int J = 1;
    private static final int K = 2;
    private static final int L = 3;
    private static final int M = 4;
    private static final int N = 5;
    private static final int O = 6;
    private static final int P = 7;

    // five of one KIND, the lowest first; a SHELF for them, one for none of them
    private static final String FIVE = "heap a; heap b; shelf s plain; shelf t odd; grows 1;"
        + " item i plain 1 over 1 in a; item j plain 2 over 1 in a; item k plain 3 over 1 in a;"
        + " item l plain 4 over 1 in a; item m plain 5 over 1 in a;";

    private PromiseTest() {
    }

    public static void main(String[] args) {
        newObject();
        feed();
        queueFaults();
        queueBeginsAnew();
        growsFaults();
        growsWorkedOut();
        growsAll();
        workFaults();
        itemHeapTreeListed();
        rankAndDepth();
        shelves();
        put();
        take();
        meld();
        undo();
        judged();
        orders();
        splitsAndSteps();
        sums();
        keys();
        bound();
        seenWhoAsk();
        days();
        marks();
        counts();
        shutCounts();
        wrongNumbers();
        Check.end("PromiseTest");
    }

    private static RaisedQueue told(String text) {
        return Check.told(text);
    }

    private static int bitsOf(double number) {
        return Float.floatToIntBits((float) number);
    }

    private static void newObject() {
        RaisedQueue x = new RaisedQueue();
        Check.same("NONE", NONE, -1);
        for (int what = 0; what < 11; what++) {
            Check.same("new: count " + what, x.count(what), what == 3 ? 2 : 0);
        }
        Check.same("new: undo", x.undo(), false);
        Check.same("new: mark 0 back", x.mark(0, true), false);
        Check.same("new: mark 1 back", x.mark(1, true), false);
        Check.same("new: judged 0", x.judged(0), NONE);
        Check.same("new: judged 1", x.judged(1), 0);
        Check.same("new: judged 2", x.judged(2), 0);
        Check.same("new: who", x.who(), 0);
        Check.same("new: ask", x.ask(), NONE);
        Check.same("new: days", x.days(0, 1, 2), 0);
        Check.same("new: SHUT", x.count(6), 3);
        Check.same("new: first", x.first(0), NONE);
        Check.same("new: SHUT without a HEAP told", x.count(6), 3);
        Check.same("new: an empty TAPE is a QUEUE", x.queue(), 0);
        Check.same("new: an empty TAPE is a WORK", x.work(), 0);
        Check.same("new: nothing SHUT behind a QUEUE", x.count(6), 0);
    }

    private static void feed() {
        RaisedQueue x = new RaisedQueue();
        Check.same("feed, the highest byte first", x.feed(0x6865617020613b00L, 0, 0), 7);
        Check.same("what was fed is read", x.queue(), 0);
        Check.same("what was fed is read: a HEAP", x.count(0), 1);
        Check.same("feed 9, 31, 127, 128, 255 are left out", x.feed(0x091f7f80ff000b0dL, 0, 0), 0);
        Check.same("feed 10, 32, 126", x.feed(0x0a207e0000000000L, 0, 0), 3);
        Check.same("feed b and c", x.feed(0, 0x20L, 0x2000L), 5);
        Check.same("126 is none", x.queue(), 1 + 16 * 2);
        for (int i = 1; i <= 41; i++) {
            Check.same("feed " + i, x.feed(0x2020202020202020L, 0x2020202020202020L, 0x2020202020202020L), 24 * i);
        }
        Check.same("feed, 1000 at most", x.feed(0x2020202020202020L, 0x2020202020202020L, 0x2020202020202020L), 1000);
        Check.same("feed, none beyond 1000", x.feed(0x3b3b3b3b3b3b3b3bL, 0, 0), 1000);
        Check.same("count 10", x.count(10), 1000);
        Check.same("1000 blanks are a QUEUE", x.queue(), 0);
        Check.same("the TAPE is empty then", x.count(10), 0);
        Check.write(x, "zz");
        Check.same("a wrong QUEUE", x.queue(), 1);
        Check.same("the TAPE is empty behind a FAULT, too", x.count(10), 0);
        Check.write(x, "zz");
        Check.same("a wrong WORK", x.work(), 1);
        Check.same("the TAPE is empty behind a FAULT of a WORK, too", x.count(10), 0);
    }

    /** The text is wrong by kind at what stands behind the sign "|". */
    private static void queueFault(int kind, String marked) {
        int place = marked.indexOf('|');
        RaisedQueue x = new RaisedQueue();
        Check.same("queue() of " + marked, Check.queue(x, marked.replace("|", "")), kind + 16 * place);
        Check.same("nothing told behind " + marked, x.count(0) + x.count(1) + x.count(2), 0);
        Check.same("share behind " + marked, x.count(3), 2);
    }

    private static void queueFaults() {
        queueFault(1, "|queue");
        queueFault(1, "|;");
        queueFault(1, "heap a; |take a;");
        queueFault(1, "|4");
        queueFault(1, "|heapheaph a;");
        queueFault(1, "heap |abcdefghi;");
        queueFault(1, "heap |A;");
        queueFault(1, "heap a|A;");
        queueFault(1, "heap a|1;");
        queueFault(1, "heap a |b;");
        queueFault(1, "heap a |/;");
        queueFault(1, "heap a|");
        queueFault(1, "heap  a  |");
        queueFault(1, "heap |");
        queueFault(1, "heap |;");
        queueFault(1, "heap |1;");
        queueFault(3, "heap a; heap |a;");
        queueFault(3, "heap a; shelf |a odd;");
        queueFault(3, "shelf a odd; heap |a;");
        queueFault(3, "shelf a odd; shelf |a odd;");
        queueFault(3, "heap a; item |a odd 1 over 1 in a;");
        queueFault(3, "heap a; item b odd 1 over 1 in a; item |b odd 1 over 1 in a;");
        queueFault(3, "heap a; item b odd 1 over 1 in a; heap |b;");
        queueFault(3, "heap a; item b odd 1 over 1 in a; shelf |b late;");
        for (String word : "heap shelf item over in share grows put take meld shelve plain urgent late odd not and or"
            .split(" ")) {
            queueFault(1, "heap |" + word + ";");
            queueFault(1, "shelf |" + word + " odd;");
            queueFault(1, "heap a; item |" + word + " odd 1 over 1 in a;");
            queueFault(1, "heap a; item b odd 1 over 1 in |" + word + ";");
            if (!"plain urgent late odd".contains(word)) {
                queueFault(1, "shelf a |" + word + ";");
                queueFault(1, "heap a; item b |" + word + " 1 over 1 in a;");
            }
            if (!word.equals("share") && !word.equals("not")) {
                queueFault(1, "grows |" + word + ";");
            }
        }
        for (String word : new String[] {"rank", "target", "all", "a"}) {
            queueFault(1, "shelf a |" + word + ";");
            queueFault(1, "|" + word + ";");
        }
        String[] names = {"a", "aa", "aaa", "b", "bb", "ab", "ba", "z", "zz", "az", "za", "aaaaaaaa", "baaaaaaa",
            "zzzzzzzz", "azzzzzzz", "zzzzzzza", "y", "yz", "hea", "heaps"};
        StringBuilder alike = new StringBuilder("heap h;");
        for (String name : names) {
            alike.append("item ").append(name).append(" odd 1 over 1 in h;");
        }
        RaisedQueue named = told(alike.toString());
        Check.same("no two NAMES are alike", named.count(2), 20);
        for (int i = 0; i < names.length; i++) {
            Check.same("put of " + names[i], Check.work(named, "take h;".repeat(20) + "put " + names[i] + " h;"), 0);
            Check.same("FLOOR without " + names[i], named.judged(1), 19);
        }
        queueFault(1, "shelf a |red;");
        queueFault(1, "shelf a |;");
        queueFault(1, "shelf a odd |late;");
        queueFault(5, "heap a; heap b; heap c; |heap d;");
        queueFault(5, "shelf a odd; shelf b odd; |shelf c odd;");
        queueFault(1, "heap a; item b |soft 1 over 1 in a;");
        queueFault(1, "heap a; item b odd |one over 1 in a;");
        queueFault(4, "heap a; item b odd |1000 over 1 in a;");
        queueFault(1, "heap a; item b odd |10000 over 1 in a;");
        queueFault(1, "heap a; item b odd 1 |under 1 in a;");
        queueFault(1, "heap a; item b odd 1 |1 in a;");
        queueFault(4, "heap a; item b odd 1 over |0 in a;");
        queueFault(4, "heap a; item b odd 1 over |100 in a;");
        queueFault(1, "heap a; item b odd 1 over |a in a;");
        queueFault(1, "heap a; item b odd 1 over 1 |a;");
        queueFault(2, "heap a; item b odd 1 over 1 in |c;");
        queueFault(2, "heap a; item b odd 1 over 1 in |b;");
        queueFault(2, "shelf a odd; item b odd 1 over 1 in |a;");
        queueFault(2, "item b odd 1 over 1 in |a; heap a;");
        queueFault(1, "heap a; item b odd 1 over 1 in |1;");
        queueFault(1, "heap a; item b odd 1 over 1 in a|");
        queueFault(4, "share |7;");
        queueFault(1, "share |a;");
        queueFault(1, "share |12345;");
        queueFault(1, "share 2|");
        queueFault(3, "share 1; |share 1;");
        queueFault(3, "grows 1; |grows 1;");
        queueFault(4, "heap a; item b odd |1000 over 100 in c; heap a;");
        StringBuilder twenty = new StringBuilder("heap a;");
        for (int i = 0; i < 20; i++) {
            twenty.append("item z").append((char) ('a' + i)).append(" odd 1over 1in a;");
        }
        Check.same("20 ITEMS", told(twenty.toString()).count(2), 20);
        queueFault(5, twenty + "|item b odd 1 over 1 in a;");
        told("heap rank; shelf target odd; item all odd 0999over0099in rank;share0006;\n");
        told("heap a;item b odd 0 over 1 in a;item c odd 999 over 99 in a;heap abcdefgh;share 0;");
        told("  \n\n");
    }

    private static void queueBeginsAnew() {
        RaisedQueue x = told(RAISED);
        Check.same("work", Check.work(x, "take a; take b;"), 0);
        x.take(0);
        x.see(0, 0, true);
        x.who();
        x.mark(0, false);
        Check.same("shelve", x.shelve(2, 1), 1);
        Check.same("undo", x.undo(), true);
        Check.same("a FAULT leaves all", Check.queue(x, "heap z; heap y; share 1; item w odd 1 over 1 in z"), 1 + 16 * 49);
        Check.same("left: HEAPS", x.count(0), 3);
        Check.same("left: ITEMS", x.count(2), 8);
        Check.same("left: share", x.count(3), 0);
        Check.same("left: WORK", x.count(7), 2);
        Check.same("left: SEEN", x.count(8), 1);
        Check.same("left: undo", x.count(9), 1);
        Check.same("left: SHUT", x.count(6), 1);
        Check.same("left: FLOOR", x.count(4), 1);
        Check.same("left: names", Check.work(x, "take c;"), 0);
        Check.same("left: new names are not told", Check.work(x, "take z;"), 2 + 16 * 5);
        Check.same("a new QUEUE", Check.queue(x, "heap z; item y plain 3 over 4 in z;"), 0);
        Check.same("anew: HEAPS", x.count(0), 1);
        Check.same("anew: SHELVES", x.count(1), 0);
        Check.same("anew: ITEMS", x.count(2), 1);
        Check.same("anew: share", x.count(3), 2);
        Check.same("anew: FLOOR", x.count(4), 0);
        Check.same("anew: SHUT", x.count(6), 0);
        Check.same("anew: WORK", x.count(7), 0);
        Check.same("anew: SEEN", x.count(8), 0);
        Check.same("anew: undo", x.count(9), 0);
        Check.same("anew: mark", x.mark(0, true), false);
        Check.same("anew: the ITEM", x.first(0), 0);
        Check.same("anew: old names are gone", Check.work(x, "take c;"), 2 + 16 * 5);
        Check.same("anew: judged", x.judged(1), 0);
        RaisedQueue shelved = told(FIVE);
        shelved.shelve(0, 0);
        shelved.shelve(0, 0);
        shelved.take(0);
        Check.same("the same again", Check.queue(shelved, FIVE), 0);
        Check.same("anew: SHELF", shelved.shelf(0), 0);
        Check.same("anew: SHELF of an ITEM", shelved.item(0, 2), NONE);
        Check.same("anew: place of an ITEM", shelved.item(1, 3), NONE);
        Check.same("anew: FLOOR", shelved.count(4), 0);
        Check.same("anew: HEAP", shelved.heap(0, 0), 5);
        RaisedQueue y = told("heap a; item b odd 0 over 1 in a; item c odd 0 over 1 in a; share 0; grows 1;");
        Check.same("share, grows as they are at last", y.heap(0, 2), 0);
        Check.same("a second QUEUE without them", Check.queue(y,
            "heap a; item b odd 1 over 1 in a; item c odd 0 over 1 in a; item d odd 3 over 1 in a; item e odd 4 over 1 in a;"), 0);
        Check.same("a second QUEUE without share", y.count(3), 2);
        Check.same("a second QUEUE without grows", y.tree(0, 0, 1), 1);
    }

    private static void growsFaults() {
        queueFault(1, "grows |;");
        queueFault(1, "grows |");
        queueFault(1, "grows |item;");
        queueFault(1, "grows |ranks;");
        queueFault(1, "grows |and 1;");
        queueFault(1, "grows 1 |1;");
        queueFault(1, "grows 1 |not 1;");
        queueFault(1, "grows 1 |(1);");
        queueFault(1, "grows 1 + |;");
        queueFault(1, "grows 1 + |+ 1;");
        queueFault(1, "grows |-1;");
        queueFault(1, "grows 1 and |and 1;");
        queueFault(1, "grows 1 < 2 |< 3;");
        queueFault(1, "grows 1 < 2 + 3 * 4 |= 3;");
        queueFault(1, "grows 1 = 2 |= 3;");
        queueFault(1, "grows (1 = 2 |< 3);");
        queueFault(1, "grows 1 and 1 = 2 |< 3;");
        queueFault(1, "grows (1 = 2) = (2 < 3) |= 1;");
        queueFault(1, "grows (1|;");
        queueFault(1, "grows (|);");
        queueFault(1, "grows 1|);");
        queueFault(1, "grows (1)|);");
        queueFault(1, "grows 1|");
        queueFault(1, "grows |12345;");
        queueFault(1, "grows 1 |> 2;");
        queueFault(1, "grows not |;");
        queueFault(1, "grows not not not not not |;");
        queueFault(5, "grows not not not not not |1;");
        queueFault(5, "grows not not not not not |not 1;");
        queueFault(5, "grows not not not not not |(1);");
        queueFault(5, "grows (((((|rank)))));");
        queueFault(5, "grows (not(not(|not 1)));");
        queueFault(1, "grows (((((|a)))));");
        queueFault(1, "grows (((((|))))));");
        queueFault(5, "grows 1 + (((not not |1)));");
        queueFault(5, "grows ((((1 + (|1)))));");
        told("grows ((((1)))) + not not not not 1 * ((((2)))) and not(not(3));");
        told("grows((((1+1))));");
        told("grows 1 < 2 and 3 = 4 or 1 < 2;");
        told("grows (1 < 2) < (3 = 4);");
        told("grows 9999;");
    }

    /** What comes of an E: the TARGET of the first NODE with CHILDREN, of RANK 1; they have TARGET 1, share is 2. */
    private static int grown(String law) {
        RaisedQueue x = told("heap a; grows " + law + "; item b plain 1 over 1 in a; item c plain 2 over 1 in a;");
        return x.tree(0, 0, 1);
    }

    private static void growsWorkedOut() {
        String[] laws = {"7", "rank", "target", "share", "all", "share + all * 3", "(share + all) * 3", "9 - 3 - 2",
            "9 - (3 - 2)", "2 * 3 * 4", "1 + 2 * 3 - 4", "5 + (7 < 8)", "5 + (8 < 8)", "5 + (8 < 7)", "5 + (8 = 8)", "5 + (8 = 7)",
            "5 + not 0", "5 + not 3", "5 + not not 3", "not 0 + 5", "not 0 * 7", "5 + (2 and 3)", "5 + (2 and 0)",
            "5 + (0 or 3)", "5 + (0 or 0)", "5 + (1 or 1 and 0)", "5 + (0 and 0 or 1)", "5 + (1 + 1 < 3 and 4 = 2 * 2)",
            "3 = 3 and 2", "99", "100", "9999", "0", "0 - 5", "9999 * 9999 * 9999", "9999 * 9999 * 43",
            "rank = 1 and target = 1 and share = 2 and all = 2", "5 + (2 < 1)", "5 + (0 - 1 < 0)", "5 + (0 - 1 and 1)"};
        int[] due = {7, 1, 1, 2, 2, 8, 12, 4, 8, 24, 3, 6, 5, 5, 6, 5, 6, 5, 6, 6, 7, 6, 5, 6, 5, 5, 6, 6, 1, 99, 99, 99,
            1, 1, 1, 99, 1, 5, 6, 6};
        for (int i = 0; i < laws.length; i++) {
            Check.same("grows " + laws[i], grown(laws[i]), due[i]);
        }
        int wrapped = 9999 * 9999 * 9999;
        Check.same("ints wrap", grown("9999 * 9999 * 9999 - 8000 * 8000 * 4"),
            Math.max(1, Math.min(99, wrapped - 8000 * 8000 * 4)));
        Check.same("ints wrap below 0", grown("5 + (9999 * 9999 * 22 < 0)"), 6);
        Check.same("without grows: 1 up to share", told("heap a; item b odd 1 over 1 in a; item c odd 2 over 1 in a;")
            .tree(0, 0, 1), 1);
        RaisedQueue x = new RaisedQueue();
        StringBuilder sixteen = new StringBuilder("heap a; share 1;");
        for (int i = 0; i < 16; i++) {
            sixteen.append("item z").append((char) ('a' + i)).append(" plain ").append(i).append(" over 1 in a;");
        }
        Check.same("sixteen", Check.queue(x, sixteen.toString()), 0);
        Check.same("sixteen: RANK", x.tree(0, 0, 0), 4);
        // 1 up to RANK 1, then (3 * 1 + 1) / 2 = 2, 3, 5
        Check.same("sixteen: TARGET", x.tree(0, 0, 1), 5);
        RaisedQueue y = told("heap a; heap b; grows rank = 1 and 9 + all * 0 or 0;"
            + " item i plain 4 over 1 in a; item j plain 3 over 1 in a;");
        Check.same("and, or from the left", y.tree(0, 0, 1), 1);
        Check.same("a long E", grown("1" + "+1".repeat(60)), 61);
    }

    private static void growsAll() {
        // 3 ITEMS each: RANKS 0 and 1; the second HEAP's RANK 0 is JOINED when all is 3 and 1
        RaisedQueue x = told("heap a; heap b; grows all; item i plain 1 over 1 in a; item j plain 2 over 1 in a;"
            + " item k plain 3 over 1 in a; item l plain 4 over 1 in b; item m plain 5 over 1 in b; item n plain 6 over 1 in b;");
        Check.same("all: of two ITEMS", x.tree(0, 1, 1), 2);
        Check.same("all: meld", x.meld(1, 0), true);
        Check.same("all: TREES", x.heap(0, 1), 2);
        Check.same("all: the TREE that came whole", x.tree(0, 0, 0), 1);
        Check.same("all: its TARGET", x.tree(0, 0, 1), 2);
        Check.same("all: the TREE that was JOINED", x.tree(0, 1, 0), 2);
        Check.same("all: its TARGET", x.tree(0, 1, 1), 4);
        RaisedQueue y = told("heap a; grows target + rank; item i plain 1 over 1 in a; item j plain 2 over 1 in a;"
            + " item k plain 3 over 1 in a; item l plain 4 over 1 in a;");
        // RANK 1: 1 + 1; RANK 2: 2 + 2
        Check.same("target and rank", y.tree(0, 0, 1), 4);
        // RANK 1: 1 + 2, then, JOINED to it, RANK 1: 1 + 4; of these the greater one: RANK 2: 5 + 4
        String four = "; item i plain 1 over 1 in a; item j plain 2 over 1 in a; item k plain 3 over 1 in a;"
            + " item l plain 4 over 1 in a;";
        Check.same("the second CHILD's TARGET is the greater", told("heap a; grows target + all" + four).tree(0, 0, 1), 9);
        // RANK 1: 1 + 9 - 2, then 1 + 9 - 4; RANK 2: 8 + 9 - 4
        Check.same("the first CHILD's TARGET is the greater", told("heap a; grows target + 9 - all" + four)
            .tree(0, 0, 1), 13);
    }

    private static void workFault(int kind, String marked) {
        int place = marked.indexOf('|');
        RaisedQueue x = told("heap a; heap all; shelf s odd; item i plain 1 over 2 in a;");
        Check.same("a WORK", Check.work(x, "take a; meld a all;"), 0);
        Check.same("work() of " + marked, Check.work(x, marked.replace("|", "")), kind + 16 * place);
        Check.same("the WORK stays behind " + marked, x.count(7), 2);
    }

    private static void workFaults() {
        workFault(1, "|heap b;");
        workFault(1, "|pull a;");
        workFault(1, "|;");
        workFault(1, "|7;");
        workFault(2, "put |a a;");
        workFault(2, "put |s a;");
        workFault(2, "put |z a;");
        workFault(1, "put |put a;");
        workFault(1, "put |1 a;");
        workFault(2, "put i |i;");
        workFault(2, "put i |s;");
        workFault(1, "put i |;");
        workFault(1, "put i a |a;");
        workFault(2, "take |i;");
        workFault(2, "take |s;");
        workFault(1, "take |not;");
        workFault(1, "take |abcdefghi;");
        workFault(1, "take a |a;");
        workFault(2, "meld |s a;");
        workFault(2, "meld a |i;");
        workFault(3, "meld a |a;");
        workFault(2, "meld |i i;");
        workFault(1, "meld a |odd;");
        workFault(1, "meld a |;");
        workFault(2, "shelve |i s;");
        workFault(2, "shelve a |a;");
        workFault(2, "shelve a |i;");
        workFault(2, "shelve a |z;");
        workFault(1, "shelve a |late;");
        workFault(1, "shelve a s|");
        workFault(1, "take a; take all|");
        workFault(1, "take a; |over");
        workFault(5, "take a;".repeat(30) + "|put i a;");
        workFault(5, "take a;".repeat(30) + "|take");
        workFault(1, "take a;".repeat(30) + "|i");
        workFault(1, "take a;".repeat(30) + "|;");
        RaisedQueue x = told(RAISED);
        Check.same("30 lines", Check.work(x, "take a;\n".repeat(30)), 0);
        Check.same("30 lines are counted", x.count(7), 30);
        Check.same("no line", Check.work(x, " \n "), 0);
        Check.same("no line is counted", x.count(7), 0);
        Check.same("a WORK without a QUEUE", Check.work(new RaisedQueue(), "take a;"), 2 + 16 * 5);
    }

    private static void itemHeapTreeListed() {
        RaisedQueue x = told(RAISED);
        int[] kinds = {0, 1, 0, 3, 2, 0, 0, 0};
        int[] heaps = {0, 0, 0, 0, 1, 2, 2, 2};
        int[] raised = {0, 1, 1, 1, 0, 0, 1, 0};
        for (int i = 0; i < 8; i++) {
            Check.same("KIND of " + i, x.item(i, 0), kinds[i]);
            Check.same("HEAP of " + i, x.item(i, 1), heaps[i]);
            Check.same("SHELF of " + i, x.item(i, 2), NONE);
            Check.same("place of " + i, x.item(i, 3), NONE);
            Check.same("RAISED " + i, x.item(i, 4), raised[i]);
        }
        int[][] due = {{4, 1, 3, 2}, {1, 1, 0, 0}, {3, 2, 1, 1}};
        for (int h = 0; h < 3; h++) {
            for (int what = 0; what < 4; what++) {
                Check.same("heap " + h + " " + what, x.heap(h, what), due[h][what]);
            }
        }
        int[][] trees = {{2, 3, 4, bitsOf(8), 1}, {0, 1, 1, bitsOf(0.1f), 1}, {0, 1, 1, bitsOf(7), 1}, {1, 2, 2, bitsOf(8), 1}};
        for (int what = 0; what < 5; what++) {
            Check.same("tree of a " + what, x.tree(0, 0, what), trees[0][what]);
            Check.same("tree of b " + what, x.tree(1, 0, what), trees[1][what]);
            Check.same("first tree of c " + what, x.tree(2, 0, what), trees[2][what]);
            Check.same("second tree of c " + what, x.tree(2, 1, what), trees[3][what]);
            Check.same("no third tree of c " + what, x.tree(2, 2, what), NONE);
        }
        int[] list = {L, K, J, I};
        for (int i = 0; i < 4; i++) {
            Check.same("listed " + i, x.listed(0, 0, i), list[i]);
        }
        Check.same("listed of c", x.listed(2, 0, 0), P);
        Check.same("listed of c, second", x.listed(2, 1, 1), N);
        Check.same("listed behind the end", x.listed(0, 0, 4), NONE);
        Check.same("listed of no tree", x.listed(0, 1, 0), NONE);
        x.take(1);
        Check.same("empty: ITEMS", x.heap(1, 0), 0);
        Check.same("empty: TREES", x.heap(1, 1), 0);
        Check.same("empty: RANK", x.heap(1, 3), NONE);
        Check.same("empty: tree", x.tree(1, 0, 0), NONE);
        Check.same("taken: HEAP", x.item(M, 1), NONE);
        Check.same("taken: RAISED", x.item(M, 4), 0);
    }

    private static void rankAndDepth() {
        // every LIST is 1 long: a root above three NODES, one of them two below
        RaisedQueue x = told("heap a; grows 1; item i plain 8 over 1 in a; item j plain 5 over 1 in a;"
            + " item k plain 3 over 1 in a; item l plain 1 over 1 in a;");
        Check.same("NODES", x.tree(0, 0, 4), 4);
        Check.same("depth i", x.depth(0), 2);
        Check.same("depth j", x.depth(1), 1);
        Check.same("depth k", x.depth(2), 1);
        Check.same("depth l", x.depth(3), 0);
        Check.same("take l", x.take(0), 3);
        Check.same("depth of none", x.depth(3), NONE);
        Check.same("NODES then", x.tree(0, 0, 4), 3);
        Check.same("CKEY then", x.tree(0, 0, 3), bitsOf(3));
        Check.same("RANK then", x.tree(0, 0, 0), 2);
        Check.same("lift of none", x.lift(3), NONE);
        Check.same("lift 0", x.lift(2), 0);
        RaisedQueue y = told(RAISED);
        Check.same("lift l", y.lift(L), bitsOf(7.5));
        Check.same("lift k", y.lift(K), bitsOf(5));
        Check.same("lift j", y.lift(J), bitsOf(3));
        Check.same("lift i", y.lift(I), 0);
        Check.same("lift o", y.lift(O), bitsOf(3));
        Check.same("lift m", y.lift(M), 0);
        // RANK stays, though the ROOT is a LEAF in the end; half of 3, cut: 1
        Check.same("take l of a", y.take(0), L);
        Check.same("take k of a", y.take(0), K);
        Check.same("take j of a", y.take(0), J);
        Check.same("RANK at the end", y.heap(0, 3), 2);
        Check.same("take i of a", y.take(0), I);
        Check.same("no TREE", y.heap(0, 1), 0);
    }

    private static void shelves() {
        RaisedQueue x = told(FIVE);
        for (int i = 0; i < 4; i++) {
            Check.same("shelve " + i, x.shelve(0, 0), 1);
            Check.same("place of " + i, x.item(i, 3), i);
            Check.same("SHELF of " + i, x.item(i, 2), 0);
            Check.same("how many " + i, x.shelf(0), i + 1);
        }
        Check.same("a full SHELF", x.shelve(0, 0), 0);
        Check.same("on the FLOOR", x.item(4, 2), NONE);
        Check.same("on the FLOOR", x.count(4), 1);
        Check.same("empty HEAP", x.shelve(0, 0), NONE);
        Check.same("put from the SHELF", x.put(1, 0), true);
        Check.same("how many then", x.shelf(0), 3);
        Check.same("no SHELF then", x.item(1, 2), NONE);
        Check.same("no place then", x.item(1, 3), NONE);
        Check.same("put from the FLOOR", x.put(4, 1), true);
        Check.same("FLOOR then", x.count(4), 0);
        Check.same("another KIND", x.shelve(0, 1), 0);
        Check.same("another KIND's SHELF", x.shelf(1), 0);
        Check.same("the free place", x.shelve(1, 0), 1);
        Check.same("the free place is 1", x.item(4, 3), 1);
        Check.same("undo", x.undo(), true);
        Check.same("undone: place", x.item(4, 3), NONE);
        Check.same("undone: HEAP", x.item(4, 1), 1);
        Check.same("undone: SHELF", x.shelf(0), 3);
        Check.same("a SHELF twice put from: 0", x.put(0, 1), true);
        Check.same("the first free place", x.shelve(1, 0), 1);
        Check.same("the first free place is 0", x.item(0, 3), 0);
    }

    private static void put() {
        RaisedQueue x = told(RAISED);
        Check.same("put of one in this HEAP", x.put(I, 0), false);
        Check.same("put of one in another HEAP", x.put(I, 1), false);
        Check.same("nothing to undo", x.count(9), 0);
        Check.same("take", x.take(0), L);
        Check.same("put", x.put(L, 1), true);
        Check.same("put: HEAP", x.item(L, 1), 1);
        Check.same("put twice", x.put(L, 1), false);
        // m 0.1 and l 0.5: RANK 1, TARGET 2, so both are in one LIST under 0.5
        Check.same("put: LIST", x.listed(1, 0, 0), M);
        Check.same("put: LIST", x.listed(1, 0, 1), L);
        Check.same("put: CKEY", x.tree(1, 0, 3), bitsOf(0.5));
        Check.same("put: one to undo more", x.count(9), 2);
        RaisedQueue y = told("heap a; share 0; item i plain 5 over 1 in a; item j plain 5 over 1 in a;");
        Check.same("equal CKEYS: the first CHILD first", y.listed(0, 0, 0), 0);
        Check.same("equal CKEYS: then the second", y.listed(0, 0, 1), 1);
        Check.same("equal CKEYS: none RAISED", y.heap(0, 2), 0);
    }

    private static void take() {
        RaisedQueue x = told(RAISED);
        Check.same("take of c: 7 is less than CKEY 8", x.take(2), P);
        Check.same("take of c", x.take(2), O);
        Check.same("take of c", x.take(2), N);
        Check.same("take of an empty one", x.take(2), NONE);
        Check.same("FLOOR", x.count(4), 3);
        Check.same("to undo", x.count(9), 3);
        // k (8) of RANK 0 and i (8), j (5) of RANK 1 under CKEY 8: equal, the least RANK comes
        RaisedQueue y = told("heap a; share 0; item i plain 8 over 1 in a; item j plain 5 over 1 in a;"
            + " item k plain 8 over 1 in a;");
        Check.same("equal CKEYS: the least RANK", y.take(0), 2);
        Check.same("then", y.take(0), 1);
        // four of RANK 2, TARGET 4: as long as more than half are in the LIST, the CHILDREN stay
        RaisedQueue z = told("heap a; grows 2; item i plain 1 over 1 in a; item j plain 2 over 1 in a;"
            + " item k plain 3 over 1 in a; item l plain 4 over 1 in a; item m plain 5 over 1 in a;"
            + " item n plain 6 over 1 in a; item o plain 7 over 1 in a; item p plain 8 over 1 in a;");
        Check.same("LIST", z.tree(0, 0, 2), 2);
        Check.same("NODES", z.tree(0, 0, 4), 4);
        Check.same("take", z.take(0), 0);
        Check.same("half of TARGET are left: SIFTED", z.tree(0, 0, 2), 3);
        Check.same("NODES then", z.tree(0, 0, 4), 3);
        Check.same("CKEY then", z.tree(0, 0, 3), bitsOf(4));
        Check.same("take", z.take(0), 1);
        Check.same("more than half are left", z.tree(0, 0, 2), 2);
        Check.same("take", z.take(0), 2);
        Check.same("half of TARGET again", z.tree(0, 0, 2), 3);
    }

    private static void meld() {
        RaisedQueue x = told(RAISED);
        Check.same("meld into itself", x.meld(0, 0), false);
        Check.same("meld", x.meld(2, 0), true);
        Check.same("melded: ITEMS", x.heap(0, 0), 7);
        Check.same("melded: empty", x.heap(2, 0), 0);
        Check.same("melded: no TREES", x.heap(2, 1), 0);
        Check.same("melded: TREES", x.heap(0, 1), 3);
        Check.same("melded: where", x.item(P, 1), 0);
        Check.same("melded: others stay", x.item(M, 1), 1);
        Check.same("meld of an empty one", x.meld(2, 1), true);
        Check.same("it can be undone, too", x.count(9), 2);
        Check.same("meld into an empty one", x.meld(0, 2), true);
        Check.same("melded back", x.heap(2, 1), 3);
        // the HEAP's TREE is the first CHILD: of equal CKEYS its LIST is ahead
        RaisedQueue y = told("heap a; heap b; share 0; item i plain 5 over 1 in a; item j plain 5 over 1 in b;");
        Check.same("meld a into b", y.meld(0, 1), true);
        Check.same("b's is first", y.listed(1, 0, 0), 1);
        Check.same("a's is second", y.listed(1, 0, 1), 0);
        Check.same("undo", y.undo(), true);
        Check.same("undone", y.heap(0, 0), 1);
        Check.same("meld b into a", y.meld(1, 0), true);
        Check.same("a's is first", y.listed(0, 0, 0), 0);
    }

    private static void undo() {
        RaisedQueue x = told(FIVE);
        for (int i = 0; i < 5; i++) {
            x.take(0);
            x.put(i, 1);
        }
        Check.same("8 can be undone", x.count(9), 8);
        for (int i = 8; i > 0; i--) {
            Check.same("undo", x.undo(), true);
            Check.same("left", x.count(9), i - 1);
        }
        Check.same("no ninth", x.undo(), false);
        Check.same("where it ends", x.heap(1, 0), 1);
        Check.same("where it ends", x.heap(0, 0), 4);
        Check.same("where it ends: trees", x.tree(0, 1, 4), 3);
        Check.same("shelve", x.shelve(0, 0), 1);
        Check.same("one more", x.count(9), 1);
        x.see(0, 0, true);
        Check.same("undo of shelve", x.undo(), true);
        Check.same("SEEN is not undone", x.count(8), 1);
        Check.same("SHELF", x.shelf(0), 0);
        Check.same("the ITEM is next again", x.first(0), 1);
        Check.same("a failed work is none to undo", x.take(7), NONE);
        Check.same("a failed put", x.put(1, 1), false);
        Check.same("a failed meld", x.meld(1, 1), false);
        Check.same("a failed shelve", x.shelve(0, 2), NONE);
        Check.same("nothing to undo", x.undo(), false);
    }

    private static void judged() {
        RaisedQueue x = told(RAISED);
        Check.same("no WORK: line", x.judged(0), NONE);
        Check.same("no WORK: FLOOR", x.judged(1), 0);
        Check.same("no WORK: RAISED", x.judged(2), 4);
        Check.same("judged: others", x.judged(3), -2);
        Check.same("judged: others", x.judged(-1), -2);
        Check.same("WORK", Check.work(x, "take b; put l a; put m b; take c; take a; meld a c; take b; take b; shelve c t;"), 0);
        for (int i = 0; i < 2; i++) {
            Check.same("the first line that can't be", x.judged(0), 1);
            // p and l are taken, then m; k comes out of c as the first of the LIST under 8
            Check.same("FLOOR", x.judged(1), 3);
            x.take(0);
            x.mark(0, false);
        }
        Check.same("not SHUT", x.count(6), 0);
        Check.same("a WORK of put", Check.work(x, "take a; put l b; put m b;"), 0);
        Check.same("put of one in a HEAP", x.judged(0), 2);
        // k and j under 8 in a, m under 0.5 in b, o under 8 in c
        Check.same("RAISED", x.judged(2), 4);
        Check.same("a WORK of an empty HEAP", Check.work(x, "meld b a; meld b a; shelve b s; take b;"), 0);
        Check.same("shelve of an empty one", x.judged(0), 2);
        Check.same("a WORK of take", Check.work(x, "take b; meld b c; take b;"), 0);
        Check.same("take of an empty one", x.judged(0), 2);
        Check.same("a WORK that can be", Check.work(x, "take b; put m a; shelve c s; shelve c t;"), 0);
        Check.same("all can be", x.judged(0), NONE);
        // p is of another KIND than s and stays on the FLOOR, o stands on t
        Check.same("FLOOR", x.judged(1), 1);
    }

    private static void comesIs(RaisedQueue x, int heap, int[] order) {
        for (int i = -1; i <= order.length; i++) {
            int got = -3;
            try {
                got = x.comes(heap, i);
            } catch (NoSuchElementException e) {
                got = -9;
            }
            Check.same("comes " + heap + " " + i, got, i < 0 || i == order.length ? -9 : order[i]);
        }
    }

    private static void awayIs(RaisedQueue x, int heap, int item, int due) {
        int got = -33;
        try {
            got = x.away(heap, item);
        } catch (NoSuchElementException e) {
            got = -99;
        }
        Check.same("away " + heap + " " + item, got, due);
    }

    private static void orders() {
        RaisedQueue x = told(RAISED);
        comesIs(x, 0, new int[] {L, K, J, I});
        comesIs(x, 1, new int[] {M});
        comesIs(x, 2, new int[] {P, O, N});
        comesIs(x, 3, new int[] {});
        comesIs(x, -1, new int[] {});
        Check.same("first a", x.first(0), L);
        Check.same("first c", x.first(2), P);
        Check.same("first of none", x.first(3), NONE);
        awayIs(x, 2, P, -1);
        awayIs(x, 2, O, 1);
        awayIs(x, 2, N, 0);
        awayIs(x, 2, I, -99);
        awayIs(x, 2, 8, -99);
        awayIs(x, 2, -1, -99);
        awayIs(x, 3, P, -99);
        awayIs(x, -1, P, -99);
        Check.same("wrongs a", x.wrongs(0), 0);
        Check.same("wrongs c", x.wrongs(2), 1);
        Check.same("wrongs of none", x.wrongs(3), NONE);
        Check.same("far a", x.far(0), 0);
        Check.same("far c", x.far(2), 1);
        Check.same("far of none", x.far(-1), NONE);
        Check.same("all is as ahead", x.heap(2, 0), 3);
        Check.same("all is as ahead: undo", x.count(9), 0);
        int[] sorted = {O, P, N};
        for (int i = -1; i < 4; i++) {
            Check.same("select " + i, x.select(2, i), i < 0 || i > 2 ? NONE : sorted[i]);
        }
        Check.same("select of none", x.select(3, 0), NONE);
        x.take(1);
        Check.same("empty: first", x.first(1), NONE);
        Check.same("empty: wrongs", x.wrongs(1), 0);
        Check.same("empty: far", x.far(1), 0);
        Check.same("empty: select", x.select(1, 0), NONE);
        comesIs(x, 1, new int[] {});
        awayIs(x, 1, M, -99);
        // equal KEYS by numbers; what is taken and put again comes behind, and stands ahead by its number
        RaisedQueue y = told("heap a; grows 1; item i plain 5 over 1 in a; item j plain 10 over 2 in a; item k plain 4 over 1 in a;");
        Check.same("take k", y.take(0), 2);
        Check.same("take", y.take(0), 0);
        Check.same("put", y.put(0, 0), true);
        comesIs(y, 0, new int[] {0, 1});
        Check.same("put k", y.put(2, 0), true);
        Check.same("select of equal ones", y.select(0, 1), 0);
        Check.same("select of equal ones", y.select(0, 2), 1);
        Check.same("equal KEYS are not wrong", y.wrongs(0), 0);
        // all in one LIST under 9, wholly the wrong way round: 3 - 0 places away
        RaisedQueue z = told("heap a; heap b; share 0; item i plain 1 over 1 in a; item j plain 2 over 1 in a;"
            + " item k plain 8 over 1 in b; item l plain 9 over 1 in b;");
        comesIs(z, 0, new int[] {0, 1});
        Check.same("meld", z.meld(0, 1), true);
        comesIs(z, 1, new int[] {0, 1, 2, 3});
    }

    private static void splitsAndSteps() {
        RaisedQueue x = told(RAISED);
        Check.same("split of 3", x.split(2, 0), P);
        Check.same("split of 3: ahead of it", x.split(2, 1), 1);
        Check.same("split of 4", x.split(0, 0), L);
        Check.same("split of 4: ahead of it", x.split(0, 1), 0);
        Check.same("split of 1", x.split(1, 0), M);
        Check.same("split: others", x.split(2, 2), NONE);
        Check.same("split: others", x.split(2, -1), NONE);
        Check.same("split of none", x.split(3, 0), NONE);
        Check.same("split leaves all", x.heap(2, 0), 3);
        Check.same("steps, the SPLIT itself", x.steps(2, 1), 1);
        Check.same("steps, ahead of it", x.steps(2, 0), 2);
        Check.same("steps, behind it", x.steps(2, 2), 2);
        Check.same("steps of no place", x.steps(2, 3), NONE);
        Check.same("steps of no place", x.steps(2, -1), NONE);
        Check.same("steps of none", x.steps(3, 0), NONE);
        Check.same("steps leave all", x.tree(2, 1, 2), 2);
        // l, then k, then j, then i: a third of 4, of 3, of 2 is 1; of i j k: k comes first, of i j: j
        for (int i = 0; i < 4; i++) {
            Check.same("steps " + i, x.steps(0, i), i == 0 ? 1 : i == 1 ? 2 : i + 1);
        }
        x.take(1);
        Check.same("empty: split", x.split(1, 0), NONE);
        Check.same("empty: split", x.split(1, 1), NONE);
        Check.same("empty: steps", x.steps(1, 0), NONE);
        // a third of 6 is 2: of these the greatest KEY, of equal ones the greatest number
        RaisedQueue y = told("heap a; grows 1; item i plain 2 over 1 in a; item j plain 2 over 1 in a;"
            + " item k plain 2 over 1 in a; item l plain 2 over 1 in a; item m plain 9 over 1 in a; item n plain 9 over 1 in a;");
        int first = y.first(0);
        int second = -1;
        try {
            second = y.comes(0, 1);
        } catch (NoSuchElementException e) {
            Check.same("comes(0, 1) is there", false, true);
        }
        Check.same("split of equal ones", y.split(0, 0), Math.max(first, second));
        Check.same("split of equal ones: ahead of it", y.split(0, 1), Math.max(first, second));
        // the two least come first, the greater one of them is at place 1
        RaisedQueue six = told("heap a; grows 1; item i plain 6 over 1 in a; item j plain 2 over 1 in a;"
            + " item k plain 5 over 1 in a; item l plain 1 over 1 in a; item m plain 4 over 1 in a; item n plain 3 over 1 in a;");
        Check.same("split of 6", six.split(0, 0), 1);
        Check.same("split of 6: ahead of it", six.split(0, 1), 1);
        Check.same("steps of 6: the SPLIT", six.steps(0, 1), 1);
        Check.same("steps of 6: ahead of it", six.steps(0, 0), 2);
        // 3, 4, 5, 6 are left: a third of 4 is 1
        Check.same("steps of 6: behind it", six.steps(0, 2), 2);
        Check.same("steps of 6: the last", six.steps(0, 5), 5);
        // the HEAP stands otherwise than one PUT by numbers: STEPS look at the latter alone
        RaisedQueue z = told("heap a; share 0; item k plain 7 over 1 in a; item i plain 8 over 1 in a; item j plain 5 over 1 in a;");
        comesIs(z, 0, new int[] {2, 0, 1});
        Check.same("take", z.take(0), 2);
        Check.same("take", z.take(0), 0);
        Check.same("put back", z.put(2, 0), true);
        Check.same("put back", z.put(0, 0), true);
        Check.same("the HEAP's SPLIT", z.split(0, 0), z.first(0));
        Check.same("by numbers: 5 is the SPLIT", z.steps(0, 0), 1);
        Check.same("by numbers: then 7", z.steps(0, 1), 2);
        Check.same("by numbers: then 8", z.steps(0, 2), 3);
    }

    private static void sums() {
        RaisedQueue x = told(RAISED);
        Check.same("worth a", x.worth(0), bitsOf(16.5));
        Check.same("worth b", x.worth(1), 1036831949);
        Check.same("worth c", x.worth(2), bitsOf(20));
        Check.same("worth of none", x.worth(3), NONE);
        Check.same("mean a", x.mean(0), bitsOf(4.125));
        Check.same("mean b", x.mean(1), 1036831949);
        Check.same("mean c", x.mean(2), bitsOf(20f / 3f));
        Check.same("mean of none", x.mean(-1), NONE);
        x.take(1);
        Check.same("empty: worth", x.worth(1), 0);
        Check.same("empty: mean", x.mean(1), 0);
        // in the order in which they come, not by numbers: that is another SINGLE
        RaisedQueue y = told("heap a; grows 1; item i plain 999 over 1 in a; item j plain 1 over 97 in a;"
            + " item k plain 1 over 99 in a; item l plain 1 over 98 in a; item m plain 2 over 99 in a; item n plain 1 over 3 in a;");
        float byKeys = 1f / 99f;
        byKeys += 1f / 98f;
        byKeys += 1f / 97f;
        byKeys += 2f / 99f;
        byKeys += 1f / 3f;
        byKeys += 999f;
        float byNumbers = 999f + 1f / 97f;
        byNumbers += 1f / 99f;
        byNumbers += 1f / 98f;
        byNumbers += 2f / 99f;
        byNumbers += 1f / 3f;
        Check.same("the orders differ", byKeys == byNumbers, false);
        Check.same("worth by the order", y.worth(0), Float.floatToIntBits(byKeys));
        Check.same("mean by the order", y.mean(0), Float.floatToIntBits(byKeys / 6f));
    }

    private static void keys() {
        RaisedQueue x = told("heap a; item i plain 1 over 3 in a; item j urgent 1 over 3 in a; item k late 1 over 3 in a;"
            + " item l odd 1 over 3 in a; item m plain 0 over 99 in a; item n plain 999 over 1 in a; item o plain 1 over 99 in a;"
            + " item p odd 0 over 1 in a; item q odd 999 over 1 in a; item r late 999 over 1 in a; item s urgent 1 over 99 in a;"
            + " item t plain 2 over 1 in a; item u plain 999 over 7 in a;");
        float third = 1f / 3f;
        float[] due = {third, third * 0.5f, third + 0.1f, 1f / (third + 1f), 0f, 999f, 1f / 99f, 1f, 1f / 1000f,
            999f + 0.1f, 1f / 99f * 0.5f, 2f, 999f / 7f};
        for (int i = 0; i < due.length; i++) {
            Check.same("bits " + i, x.bits(i), Float.floatToIntBits(due[i]));
            Check.same("thousand " + i, x.thousand(i), (int) (due[i] * 1000f));
        }
        Check.same("a third", x.bits(0), 0x3eaaaaab);
        Check.same("cut", x.thousand(0), 333);
        Check.same("bits: others", x.bits(13), NONE);
        Check.same("bits: others", x.bits(-1), NONE);
        Check.same("thousand: others", x.thousand(13), NONE);
        Check.same("thousand: others", x.thousand(-1), NONE);
        // RANK 3 has TARGET 2, m and o under 1/99; q (1/1000) is the ROOT of RANK 2 and comes ahead of m
        Check.same("take", x.take(0), 8);
        Check.same("bits of one in no HEAP", x.bits(8), Float.floatToIntBits(due[8]));
        Check.same("thousand of one in no HEAP", x.thousand(8), 1);
    }

    private static void bound() {
        RaisedQueue x = told(RAISED);
        Check.same("bound, share 0", x.bound(0), true);
        Check.same("bound of none", x.bound(3), false);
        Check.same("bound of none", x.bound(-1), false);
        x.take(1);
        Check.same("bound of an empty one", x.bound(1), true);
        // two of four RAISED, one may be; with share 1 two may be
        String two = "heap a; grows 2; item i plain 1 over 1 in a; item j plain 2 over 1 in a;"
            + " item k plain 3 over 1 in a; item l plain 4 over 1 in a; share ";
        Check.same("two are RAISED", told(two + "2;").heap(0, 2), 2);
        Check.same("one may be", told(two + "2;").bound(0), false);
        Check.same("two may be", told(two + "1;").bound(0), true);
        // of five one may be by share 2, and none by share 3: cut
        String one = "heap a; grows 2; item i plain 1 over 1 in a; item j plain 2 over 1 in a; item k plain 3 over 1 in a; share ";
        Check.same("one is RAISED", told(one + "1;").heap(0, 2), 1);
        Check.same("one of three may be by share 1", told(one + "1;").bound(0), true);
        Check.same("none of three may be by share 2", told(one + "2;").bound(0), false);
    }

    private static void seenWhoAsk() {
        RaisedQueue x = told(RAISED);
        Check.same("who: all", x.who(), 7);
        // at 0: odd, late, plain; each parts one from two, the first is i 0, plain
        Check.same("ask", x.ask(), 0);
        Check.same("see: i", x.see(10, 0, true), false);
        Check.same("see: i", x.see(-1, 0, true), false);
        Check.same("see: KIND", x.see(0, 4, true), false);
        Check.same("see: KIND", x.see(0, -1, true), false);
        Check.same("none SEEN", x.count(8), 0);
        Check.same("see", x.see(0, 0, false), true);
        Check.same("who", x.who(), 3);
        // late or odd at 0 part a from b: late is the first KIND
        Check.same("ask", x.ask(), 2);
        Check.same("see, also if it gives none", x.see(9, 3, false), true);
        Check.same("who", x.who(), 3);
        Check.same("see", x.see(0, 2, true), true);
        Check.same("who", x.who(), 2);
        Check.same("one is left: nothing parts it", x.ask(), NONE);
        // as all is when it is asked
        Check.same("take", x.take(1), M);
        Check.same("who: b gives none", x.who(), 0);
        Check.same("undo", x.undo(), true);
        Check.same("who", x.who(), 2);
        for (int i = 3; i < 8; i++) {
            Check.same("see " + i, x.see(9, 0, false), true);
        }
        Check.same("8 are SEEN", x.count(8), 8);
        Check.same("no ninth", x.see(9, 0, false), false);
        Check.same("who", x.who(), 2);
        RaisedQueue y = told("heap a; heap b; item i odd 1 over 1 in a; item j odd 1 over 1 in b; item k odd 2 over 1 in b;");
        Check.same("ask by who gives one more", y.ask(), 4 * 1 + 3);
        Check.same("see", y.see(1, 3, true), true);
        Check.same("who", y.who(), 2);
        RaisedQueue z = told("heap a; heap b; item i odd 1 over 1 in a; item j odd 1 over 1 in b;");
        Check.same("nothing parts them", z.ask(), NONE);
        // alike up to the ninth, or up to the tenth that would come
        String nine = "heap a; heap b; shelf s odd; ";
        for (int i = 0; i < 9; i++) {
            nine += "item c" + (char) ('a' + i) + " plain 0 over 1 in a; item d" + (char) ('a' + i) + " plain 0 over 1 in b; ";
        }
        Check.same("ask of the tenth", told(nine + "item e odd 0 over 1 in b;").ask(), 4 * 9 + 3);
        RaisedQueue tenth = told(nine + "item e late 0 over 1 in b; item f late 0 over 1 in a;");
        Check.same("nothing parts them up to the tenth", tenth.ask(), NONE);
        Check.same("see of the tenth", tenth.see(9, 2, true), true);
        Check.same("who of the tenth", tenth.who(), 3);
        Check.same("ten in one, ten in the other: take", tenth.take(1) >= 0, true);
        Check.same("who of nine", tenth.who(), 1);
        RaisedQueue none = new RaisedQueue();
        Check.same("see without a QUEUE", none.see(0, 0, true), true);
        Check.same("who without a QUEUE", none.who(), 0);
    }

    private static void days() {
        RaisedQueue x = told(RAISED);
        int[][] wrong = {{-1, 1, 0}, {10000, 1, 0}, {0, 0, 0}, {0, 100, 0}, {0, 1, 3}, {0, 1, -1}};
        for (int[] w : wrong) {
            Check.same("days: others", x.days(w[0], w[1], w[2]), NONE);
        }
        Check.same("others are not SHUT", x.count(6), 0);
        // by SEED 1: g 1103527590, a draw of 16838; then 5758, 10113
        long g = 1;
        int[] draws = new int[3];
        for (int i = 0; i < 3; i++) {
            g = (g * 1103515245L + 12345L) % 2147483648L;
            draws[i] = (int) (g / 65536);
        }
        Check.same("the first draw", draws[0], 16838);
        // 16838 % 3 = 2: c; 5758 % 8 = 6: o; 10113 % 4 = 1: PUT, but o is in a HEAP
        Check.same("second draw", draws[1], 5758);
        Check.same("third draw", draws[2], 10113);
        Check.same("one day: it can't be", x.days(1, 1, 0), 0);
        Check.same("one day: RAISED", x.days(1, 1, 1), 4);
        Check.same("one day: FLOOR", x.days(1, 1, 2), 0);
        Check.same("SHUT", x.count(6), 3);
        Check.same("all is as ahead", x.count(9), 0);
        Check.same("99 days by 9999", x.days(9999, 99, 0) > 0, true);
        RaisedQueue one = told("heap a; item i odd 1 over 1 in a;");
        int could = 0;
        int in = 1;
        g = 7;
        for (int day = 0; day < 50; day++) {
            int deed = 0;
            for (int i = 0; i < 3; i++) {
                g = (g * 1103515245L + 12345L) % 2147483648L;
                deed = (int) (g / 65536 % 4);
            }
            if (deed < 2 && in == 0) {
                in = 1;
                could++;
            } else if (deed == 2 && in == 1) {
                in = 0;
                could++;
            }
        }
        Check.same("one HEAP, none is MELDED into itself", one.days(7, 50, 0), could);
        Check.same("one HEAP: FLOOR", one.days(7, 50, 2), 1 - in);
        Check.same("no ITEMS", told("heap a; heap b;").days(7, 99, 0), 0);
    }

    private static void marks() {
        RaisedQueue x = told(RAISED);
        Check.same("mark 2", x.mark(2, false), false);
        Check.same("mark -1", x.mark(-1, false), false);
        Check.same("mark -1 back", x.mark(-1, true), false);
        Check.same("nothing on 1", x.mark(1, true), false);
        x.see(0, 3, true);
        x.take(1);
        Check.same("lay 1", x.mark(1, false), true);
        Check.same("nothing on 0", x.mark(0, true), false);
        Check.same("undo stays when it is laid", x.count(9), 1);
        x.see(0, 2, true);
        x.take(0);
        x.shelve(2, 1);
        x.who();
        Check.same("work", Check.work(x, "take a; take a;"), 0);
        Check.write(x, "heap");
        Check.same("lay 0", x.mark(0, false), true);
        Check.same("back to 1", x.mark(1, true), true);
        Check.same("FLOOR", x.count(4), 1);
        Check.same("SEEN", x.count(8), 1);
        Check.same("who", x.who(), 1);
        Check.same("nothing can be undone", x.undo(), false);
        Check.same("SHUT stays", x.count(6), 2);
        Check.same("the TAPE stays", x.count(10), 4);
        Check.same("the WORK stays", x.count(7), 2);
        Check.same("trees", x.listed(0, 0, 0), L);
        Check.same("back to 0", x.mark(0, true), true);
        Check.same("SHELF", x.shelf(1), 1);
        Check.same("SEEN", x.count(8), 2);
        Check.same("take", x.take(0), K);
        Check.same("back to 0 again", x.mark(0, true), true);
        Check.same("take again", x.take(0), K);
        Check.same("laid anew", x.mark(0, false), true);
        Check.same("take", x.take(0), J);
        Check.same("back to 0 as laid anew", x.mark(0, true), true);
        Check.same("take again", x.take(0), J);
        marksHoldSeen();
        RaisedQueue none = new RaisedQueue();
        Check.same("a MARK without a QUEUE", none.mark(0, false), true);
        Check.same("back to it", none.mark(0, true), true);
        Check.same("a QUEUE", Check.queue(none, RAISED), 0);
        Check.same("no MARK then", none.mark(0, true), false);
    }

    /** What each MARK holds of SEEN: 8 of one, 2 of the other, the second another one than it was there. */
    private static void marksHoldSeen() {
        RaisedQueue x = told(RAISED);
        x.see(0, 0, false);
        x.mark(0, false);
        x.see(0, 3, true);
        for (int i = 2; i < 7; i++) {
            x.see(i, 2, false);
        }
        x.see(0, 2, false);
        Check.same("8 SEEN: a", x.who(), 1);
        x.mark(1, false);
        x.mark(0, true);
        Check.same("1 SEEN: a, b", x.who(), 3);
        x.see(0, 3, false);
        Check.same("2 SEEN: b", x.who(), 2);
        x.mark(0, false);
        x.mark(1, true);
        Check.same("8 SEEN again: a", x.who(), 1);
        Check.same("8 SEEN again", x.count(8), 8);
        Check.same("no ninth", x.see(0, 0, true), false);
        x.mark(0, true);
        Check.same("2 SEEN again: b", x.who(), 2);
        x.see(0, 2, false);
        Check.same("3 SEEN: none", x.who(), 0);
        RaisedQueue y = told(RAISED);
        for (int i = 0; i < 7; i++) {
            y.see(9, 0, false);
        }
        y.see(0, 3, true);
        y.mark(0, false);
        y.mark(1, false);
        Check.same("the eighth SEEN counts: a", y.who(), 1);
        y.mark(0, true);
        Check.same("the eighth SEEN counts of MARK 0: a", y.who(), 1);
        y.mark(1, true);
        Check.same("the eighth SEEN counts of MARK 1: a", y.who(), 1);
    }

    private static void counts() {
        RaisedQueue x = told(RAISED);
        int[] due = {3, 2, 8, 0, 0, 4, 0, 0, 0, 0, 0};
        for (int what = -1; what < 12; what++) {
            Check.same("count " + what, x.count(what), what < 0 || what > 10 ? NONE : due[what]);
        }
        x.take(2);
        x.shelve(2, 1);
        Check.same("count FLOOR", x.count(4), 2 - 1);
        Check.same("count RAISED", x.count(5), 3);
        Check.same("count undo", x.count(9), 2);
    }

    private static void shutCounts() {
        RaisedQueue x = told(RAISED);
        int due = 0;
        for (int i = -1; i < 10; i++) {
            x.first(1);
            x.wrongs(1);
            x.far(1);
            x.worth(1);
            x.mean(1);
            x.split(1, i);
            x.steps(1, i);
            awayQuietly(x, 1, i);
            comesQuietly(x, 1, i);
            due += 9;
            Check.same("SHUT, whatever else they are asked with " + i, x.count(6), due);
            x.select(1, i);
            x.bound(i);
            x.lift(i);
            x.depth(i);
            x.judged(i);
            x.item(i, 4);
            x.heap(i, 2);
            Check.same("what is not SHUT " + i, x.count(6), due);
        }
        for (int heap : new int[] {-1, 3, Integer.MAX_VALUE, Integer.MIN_VALUE}) {
            x.first(heap);
            x.wrongs(heap);
            x.far(heap);
            x.worth(heap);
            x.mean(heap);
            x.split(heap, 0);
            x.steps(heap, 0);
            awayQuietly(x, heap, 0);
            comesQuietly(x, heap, 0);
        }
        Check.same("no HEAP told, not SHUT", x.count(6), due);
        x.who();
        x.ask();
        x.days(0, 1, 0);
        Check.same("who, ask, days", x.count(6), due + 3);
        x.take(1);
        x.first(1);
        x.mean(1);
        x.split(1, 0);
        x.steps(1, 0);
        comesQuietly(x, 1, 0);
        awayQuietly(x, 1, M);
        Check.same("an empty HEAP, too", x.count(6), due + 9);
    }

    private static void comesQuietly(RaisedQueue x, int heap, int i) {
        try {
            x.comes(heap, i);
        } catch (NoSuchElementException e) {
            return;
        }
    }

    private static void awayQuietly(RaisedQueue x, int heap, int item) {
        try {
            x.away(heap, item);
        } catch (NoSuchElementException e) {
            return;
        }
    }

    private static void wrongNumbers() {
        for (RaisedQueue x : new RaisedQueue[] {told(RAISED), new RaisedQueue()}) {
            for (int n : new int[] {-1, -2, 8, 20, 3 * 24, Integer.MIN_VALUE, Integer.MAX_VALUE, Integer.MAX_VALUE - 1}) {
                Check.same("item " + n, x.item(n, 0), -2);
                Check.same("item what " + n, x.item(0, n), -2);
                Check.same("heap " + n, x.heap(n, 0), -2);
                Check.same("heap what " + n, x.heap(0, n), -2);
                Check.same("tree " + n, x.tree(n, 0, 0), NONE);
                Check.same("tree i " + n, x.tree(0, n, 0), NONE);
                Check.same("tree what " + n, x.tree(0, 0, n), NONE);
                Check.same("listed " + n, x.listed(n, 0, 0), NONE);
                Check.same("listed tree " + n, x.listed(0, n, 0), NONE);
                Check.same("listed i " + n, x.listed(0, 0, n), NONE);
                Check.same("shelf " + n, x.shelf(n), NONE);
                Check.same("put " + n, x.put(n, 0), false);
                Check.same("put into " + n, x.put(0, n), false);
                Check.same("take " + n, x.take(n), NONE);
                Check.same("meld " + n, x.meld(n, 0), false);
                Check.same("meld into " + n, x.meld(0, n), false);
                Check.same("shelve " + n, x.shelve(n, 0), NONE);
                Check.same("shelve on " + n, x.shelve(0, n), NONE);
                Check.same("judged " + n, x.judged(n), -2);
                Check.same("first " + n, x.first(n), NONE);
                Check.same("wrongs " + n, x.wrongs(n), NONE);
                Check.same("far " + n, x.far(n), NONE);
                Check.same("select " + n, x.select(n, 0), NONE);
                Check.same("select i " + n, x.select(0, n), NONE);
                Check.same("split " + n, x.split(n, 0), NONE);
                Check.same("split what " + n, x.split(0, n), NONE);
                Check.same("steps " + n, x.steps(n, 0), NONE);
                Check.same("steps i " + n, x.steps(0, n), NONE);
                Check.same("worth " + n, x.worth(n), NONE);
                Check.same("mean " + n, x.mean(n), NONE);
                Check.same("bits " + n, x.bits(n), NONE);
                Check.same("thousand " + n, x.thousand(n), NONE);
                Check.same("lift " + n, x.lift(n), NONE);
                Check.same("depth " + n, x.depth(n), NONE);
                Check.same("bound " + n, x.bound(n), false);
                Check.same("mark " + n, x.mark(n, true), false);
                Check.same("mark " + n, x.mark(n, false), false);
                awayIs(x, n, 0, -99);
                awayIs(x, 0, n, -99);
            }
            Check.same("nothing came of it", x.count(9), 0);
        }
    }
}
