import java.util.NoSuchElementException;

/**
 * Promises 16 to 36, with part 3 of the terms, at their edges: each heading is a sentence of the document that names
 * one, with the promise that needs it, and its rows stand on both sides: the last that is allowed, the first that is not.
 */
public final class AskedEdgesTest {
    private static final int NONE = RaisedQueue.NONE;
    private static final int THROWN = -77;
    private static final String[] KINDS = {"plain", "urgent", "late", "odd"};
    private static final String FIRST = "Promise 16, first";
    private static final String COMES = "Promise 17, comes";
    private static final String AWAY = "Promise 18, away";
    private static final String WRONGS = "Promise 19, wrongs";
    private static final String FAR = "Promise 20, far";
    private static final String SELECT = "Promise 21, select";
    private static final String SPLIT = "Promise 22, split";
    private static final String STEPS = "Promise 23, steps";
    private static final String WORTH = "Promise 24, worth";
    private static final String MEAN = "Promise 25, mean";
    private static final String BITS = "Promise 26, bits";
    private static final String THOUSAND = "Promise 27, thousand";
    private static final String LIFT = "Promise 28, lift";
    private static final String BOUND = "Promise 29, bound";
    private static final String DEPTH = "Promise 30, depth";
    private static final String SEE = "Promise 31, see";
    private static final String WHO = "Promise 32, who";
    private static final String ASK = "Promise 33, ask";
    private static final String DAYS = "Promise 34, days";
    private static final String MARK = "Promise 35, mark";
    private static final String COUNT = "Promise 36, count";

    private AskedEdgesTest() {
    }

    public static void main(String[] args) {
        first();
        comes();
        awayThrows();
        awayPlaces();
        wrongsAndFar();
        select();
        splitThird();
        stepsPlaces();
        stepsByNumbers();
        worth();
        mean();
        singles();
        keys();
        thousand();
        lift();
        bound();
        depth();
        see();
        seenIsSo();
        ask();
        askFirst();
        daysOthers();
        daysWorks();
        marksOthers();
        marksHold();
        marksOfTheirOwn();
        marksAndUndo();
        counts();
        shutOnce();
        allIsAsAhead();
        questionsDoNotMix();
        lastCall();
        Check.end("AskedEdgesTest");
    }

    // ---- of use to several ----

    private static RaisedQueue ofKeys(String law, int... keys) {
        return Check.told("heap a; heap b; heap c; shelf s plain; shelf t odd;" + law + Keys.plain('a', "a", keys));
    }

    private static int comesOf(RaisedQueue x, int heap, int i) {
        try {
            return x.comes(heap, i);
        } catch (NoSuchElementException e) {
            return THROWN;
        }
    }

    private static int awayOf(RaisedQueue x, int heap, int item) {
        try {
            return x.away(heap, item);
        } catch (NoSuchElementException e) {
            return THROWN;
        }
    }

    private static void orderIs(RaisedQueue x, int heap, int... items) {
        for (int i = 0; i < items.length; i++) {
            Check.same("comes of heap " + heap + " at " + i, comesOf(x, heap, i), items[i]);
        }
        Check.same("comes of heap " + heap + ", its end", comesOf(x, heap, items.length), THROWN);
    }

    // ---- Promises 16 to 21: the order ----

    private static void first() {
        Check.heading(FIRST, "NEXT; NONE: others, empty.");
        RaisedQueue x = ofKeys("", 7);
        Check.same("of one", x.first(0), 0);
        Check.same("of an empty one", x.first(2), NONE);
        Check.same("of none", x.first(3), NONE);
        for (int far : Keys.FAR_OUT) {
            Check.same("heap " + far, x.first(far), NONE);
        }
        x.take(0);
        Check.same("of an emptied one", x.first(0), NONE);
        RaisedQueue y = ofKeys("grows 2;", 9, 4, 8);
        Check.same("which ITEM TAKE would give", y.first(0), 2);
        Check.same("it gives that one", y.take(0), 2);
    }

    private static void comes() {
        Check.heading(COMES, "COMES. NoSuchElementException: others, none such.");
        RaisedQueue x = ofKeys("grows 1;", 3, 1, 2);
        orderIs(x, 0, 1, 2, 0);
        Check.same("i -1", comesOf(x, 0, -1), THROWN);
        for (int far : Keys.FAR_OUT) {
            Check.same("i " + far, comesOf(x, 0, far), THROWN);
            Check.same("heap " + far, comesOf(x, far, 0), THROWN);
        }
        Check.same("of an empty one", comesOf(x, 2, 0), THROWN);
        Check.same("of none", comesOf(x, 3, 0), THROWN);
        x.take(0);
        Check.same("of two: the last one", comesOf(x, 0, 1), 0);
        Check.same("of two: one beyond it", comesOf(x, 0, 2), THROWN);
        RaisedQueue all = ofKeys("grows 1;", Keys.upTo(20));
        Check.same("the 20th", comesOf(all, 0, 19), 19);
        Check.same("the 21st", comesOf(all, 0, 20), THROWN);
        Check.same("all are there still", all.heap(0, 0), 20);
    }

    private static void awayThrows() {
        Check.heading(AWAY, "AWAY. NoSuchElementException: others, not in it.");
        RaisedQueue x = Check.told("heap a; heap b; shelf s plain;" + Keys.plain('a', "a", 1, 2, 3) + Keys.plain('d', "b", 4));
        Check.same("in it", awayOf(x, 0, 0), 0);
        Check.same("in another one", awayOf(x, 0, 3), THROWN);
        Check.same("in that one", awayOf(x, 1, 3), 0);
        Check.same("the last ITEM and one", awayOf(x, 0, 4), THROWN);
        Check.same("of none", awayOf(x, 2, 0), THROWN);
        for (int far : Keys.FAR_OUT) {
            Check.same("item " + far, awayOf(x, 0, far), THROWN);
            Check.same("heap " + far, awayOf(x, far, 0), THROWN);
        }
        // 3 is alone ahead of 1 and 2 of RANK 1: 1 is less
        Check.same("take", x.take(0), 0);
        Check.same("on the FLOOR", awayOf(x, 0, 0), THROWN);
        Check.same("shelve", x.shelve(1, 0), 1);
        Check.same("on a SHELF", awayOf(x, 1, 3), THROWN);
        Check.same("on a SHELF, of a HEAP NONE", awayOf(x, NONE, 3), THROWN);
        Check.same("of an empty one", awayOf(x, 1, 0), THROWN);
    }

    private static void awayPlaces() {
        Check.heading(AWAY, "at which place less at which of them all by KEYS (of equal ones by numbers) it would come");
        // 5, 6, 9, 9 in one LIST under 9; 7 is alone and comes first
        RaisedQueue x = ofKeys("grows 9;", 5, 6, 9, 9, 7);
        orderIs(x, 0, 4, 0, 1, 2, 3);
        int[] due = {1, 1, 0, 0, -2};
        for (int i = 0; i < 5; i++) {
            Check.same("of " + i, awayOf(x, 0, i), due[i]);
        }
        // equal KEYS: b of HEAP 1 is the first CHILD, a comes behind it and stands ahead of it
        RaisedQueue y = Check.told("heap a; heap b; share 0;" + Keys.plain('a', "a", 5) + Keys.plain('b', "b", 5));
        y.meld(0, 1);
        orderIs(y, 1, 1, 0);
        Check.same("the greater number comes first", awayOf(y, 1, 1), -1);
        Check.same("the lesser number comes last", awayOf(y, 1, 0), 1);
        Check.same("equal KEYS are not WRONG", y.wrongs(1), 0);
        Check.same("but FAR", y.far(1), 1);
    }

    private static void wrongsAndFar() {
        Check.heading(WRONGS, "WRONG; NONE: others.");
        RaisedQueue x = ofKeys("share 0;", 8, 5, 7, 6);
        // 6, 7 under 7, then 5, 8 under 8, all in one LIST
        orderIs(x, 0, 3, 2, 1, 0);
        Check.same("5 behind 6 and 7", x.wrongs(0), 2);
        Check.same("of an empty one", x.wrongs(2), 0);
        Check.same("of one ITEM", ofKeys("", 1).wrongs(0), 0);
        Check.same("of none", x.wrongs(3), NONE);
        for (int far : Keys.FAR_OUT) {
            Check.same("heap " + far, x.wrongs(far), NONE);
        }
        Check.heading(WRONGS, "pairs of ITEMS of which the one that would come later has the lesser KEY");
        Check.same("equal ones are none", ofKeys("grows 9;", 5, 5, 5, 5, 5).wrongs(0), 0);
        Check.same("all in order", ofKeys("grows 1;", 4, 3, 2, 1).wrongs(0), 0);
        Check.same("7 ahead of 5 and 6, not of 9", ofKeys("grows 9;", 5, 6, 9, 9, 7).wrongs(0), 2);

        Check.heading(FAR, "FAR; NONE: others.");
        Check.same("of an empty one", x.far(2), 0);
        Check.same("of one ITEM", ofKeys("", 1).far(0), 0);
        Check.same("of none", x.far(3), NONE);
        for (int far : Keys.FAR_OUT) {
            Check.same("heap " + far, x.far(far), NONE);
        }
        Check.heading(FAR, "FAR: the most, without the sign, that any is AWAY");
        Check.same("5 is 2 behind", x.far(0), 2);
        Check.same("7 is 2 ahead, none more than 1 behind", ofKeys("grows 9;", 5, 6, 9, 9, 7).far(0), 2);
        Check.same("none is AWAY", ofKeys("grows 1;", 4, 3, 2, 1).far(0), 0);
    }

    private static void select() {
        Check.heading(SELECT, "SELECT; NONE: others, none such.");
        RaisedQueue x = ofKeys("grows 9;", 7, 5, 7, 5, 6);
        int[] due = {1, 3, 4, 0, 2};
        for (int i = 0; i < 5; i++) {
            Check.same("at " + i, x.select(0, i), due[i]);
        }
        Check.same("at 5", x.select(0, 5), NONE);
        Check.same("of an empty one", x.select(2, 0), NONE);
        Check.same("of none", x.select(3, 0), NONE);
        for (int far : Keys.FAR_OUT) {
            Check.same("at " + far, x.select(0, far), NONE);
            Check.same("heap " + far, x.select(far, 0), NONE);
        }
        RaisedQueue all = ofKeys("grows 9;", Keys.upTo(20));
        Check.same("at 19", all.select(0, 19), 19);
        Check.same("at 20", all.select(0, 20), NONE);
        Check.same("take", all.take(0), 0);
        Check.same("at 18 of 19", all.select(0, 18), 19);
        Check.same("at 19 of 19", all.select(0, 19), NONE);
        Check.same("0 is not there", all.select(0, 0), 1);
    }

    // ---- Promises 22, 23 ----

    private static void splitThird() {
        Check.heading(SPLIT, "SPLIT, what 0: the ITEM, 1: how many; NONE: others, empty.");
        RaisedQueue x = ofKeys("grows 1;", 3, 1, 2);
        Check.same("the ITEM", x.split(0, 0), 1);
        Check.same("how many", x.split(0, 1), 0);
        Check.same("what 2", x.split(0, 2), NONE);
        Check.same("of an empty one", x.split(2, 0), NONE);
        Check.same("of an empty one: how many", x.split(2, 1), NONE);
        Check.same("of none", x.split(3, 0), NONE);
        for (int far : Keys.FAR_OUT) {
            Check.same("what " + far, x.split(0, far), NONE);
            Check.same("heap " + far, x.split(far, 0), NONE);
        }
        Check.heading(SPLIT, "a third (cut, 1 at least) of its ITEMS TAKEN");
        int[] due = {0, 0, 0, 0, 0, 1, 1, 1, 2, 2, 2, 3, 3, 3, 4, 4, 4, 5, 5, 5};
        for (int many = 1; many <= 20; many++) {
            RaisedQueue y = ofKeys("grows 1;", Keys.upTo(many));
            Check.same("of " + many, y.split(0, 0), due[many - 1]);
            Check.same("of " + many + ": how many", y.split(0, 1), due[many - 1]);
            Check.same("none is TAKEN", y.heap(0, 0), many);
        }
        Check.heading(SPLIT, "of these the one with the greatest KEY (of equal ones the greatest number)");
        Check.same("the greatest KEY, not the greatest number", ofKeys("grows 1;", 6, 2, 5, 1, 4, 3).split(0, 0), 1);
        // 7 and 5 come, 7 first
        Check.same("the greatest KEY, not the last one", ofKeys("grows 9;", 5, 6, 9, 9, 7, 7).split(0, 0), 5);
        RaisedQueue equal = Check.told("heap a; heap b; share 0;" + Keys.plain('a', "a", 5, 9, 9) + Keys.plain('d', "b", 5, 9, 9));
        equal.meld(0, 1);
        Check.same("of equal ones the greatest number", equal.split(1, 0), equal.select(1, equal.split(1, 1)));
        RaisedQueue six = ofKeys("grows 1;", 5, 5, 5, 5, 5, 5);
        orderIs(six, 0, 4, 5, 0, 1, 2, 3);
        Check.same("4 and 5 come: 5", six.split(0, 0), 5);
        RaisedQueue turned = Check.told("heap a; heap b; share 6;" + Keys.plain('a', "a", 5, 7, 7, 7) + Keys.plain('e', "b", 5, 7));
        turned.meld(0, 1);
        // e, f of RANK 1 stay, a .. d of RANK 2 take their place: of equal CKEYS the least RANK
        orderIs(turned, 1, 4, 0, 5, 1, 2, 3);
        Check.same("4 and 0 come: 4", turned.split(1, 0), 4);
        // 7, then 8, in NODES of their own; 5, 7 in one LIST under 7, then under 9: of equal CKEYS the least RANK
        RaisedQueue zero = Check.told("heap a; heap b; grows (rank = 2) * 2;" + Keys.plain('a', "b", 7, 8) + Keys.plain('c', "a", 5, 7, 9, 9));
        zero.meld(1, 0);
        orderIs(zero, 0, 0, 2, 1, 3, 4, 5);
        Check.same("7, ITEM 0, then 5 come: 7", zero.split(0, 0), 0);

        Check.heading(SPLIT, "how many ITEMS of the HEAP stand ahead of it by KEYS");
        Check.same("7 of 5, 6, 7, 9, 9", ofKeys("grows 9;", 5, 6, 9, 9, 7).split(0, 1), 2);
        Check.same("of equal ones by numbers", six.split(0, 1), 5);
    }

    private static void stepsPlaces() {
        Check.heading(STEPS, "STEPS; NONE: others, no such place.");
        RaisedQueue x = ofKeys("grows 1;", 3, 1, 2);
        Check.same("at 0", x.steps(0, 0), 1);
        Check.same("at 2", x.steps(0, 2), 3);
        Check.same("at 3", x.steps(0, 3), NONE);
        Check.same("of an empty one", x.steps(2, 0), NONE);
        Check.same("of none", x.steps(3, 0), NONE);
        for (int far : Keys.FAR_OUT) {
            Check.same("at " + far, x.steps(0, far), NONE);
            Check.same("heap " + far, x.steps(far, 0), NONE);
        }
        Check.same("of one ITEM", ofKeys("", 1).steps(0, 0), 1);
        Check.heading(STEPS, "if that is not it, of those ahead of it by KEYS, or those behind it, among which it is; and so on");
        // SPLITS of 20: place 5; of 0 .. 4: 0, 1, 2, 3, 4; of 6 .. 19: 9; of 6 .. 8: 6, 7, 8; of 10 .. 19: 12, ..
        int[] due = {2, 3, 4, 5, 6, 1, 3, 4, 5, 2, 4, 5, 3, 5, 4, 5, 6, 7, 8, 9};
        RaisedQueue y = ofKeys("grows 1;", Keys.upTo(20));
        for (int i = 0; i < 20; i++) {
            Check.same("at " + i + " of 20", y.steps(0, i), due[i]);
        }
        Check.same("at 20 of 20", y.steps(0, 20), NONE);
        // equal KEYS stand by numbers: of 0 .. 5 come 4 and 5: 5; of 0 .. 4: 4; of 0 .. 3: 0; of 1 .. 3: 3; of 1, 2: 1
        RaisedQueue six = ofKeys("grows 1;", 5, 5, 5, 5, 5, 5);
        int[] equal = {3, 5, 6, 4, 2, 1};
        for (int i = 0; i < 6; i++) {
            Check.same("at " + i + " of six equal ones", six.steps(0, i), equal[i]);
        }
    }

    private static void stepsByNumbers() {
        Check.heading(STEPS, "of some ITEMS (all of the HEAP at first), PUT by their numbers into an empty HEAP, the SPLIT");
        RaisedQueue z = ofKeys("share 0;", 7, 8, 5);
        orderIs(z, 0, 2, 0, 1);
        z.take(0);
        z.take(0);
        z.take(0);
        z.put(2, 0);
        z.put(1, 0);
        z.put(0, 0);
        // 5, 8 in one LIST under 8, and 7 alone: the SPLIT of the HEAP is 7; by numbers 7, 8 in one LIST, and 5 alone
        Check.same("the SPLIT of the HEAP", z.split(0, 0), 0);
        Check.same("5 by numbers", z.steps(0, 0), 1);
        Check.same("then 7", z.steps(0, 1), 2);
        Check.same("then 8", z.steps(0, 2), 3);
        // by numbers 9 and 4 are JOINED when the HEAP has 2: 4, 9 in one LIST under 9, and 8 alone comes first
        RaisedQueue y = Check.told("heap a; heap b; grows (all < 3) * 9;" + Keys.plain('a', "b", 1) + Keys.plain('b', "a", 9, 4, 8));
        Check.same("8: what other HEAPS have does not count", y.steps(0, 1), 1);
        Check.same("4: ahead of it", y.steps(0, 0), 2);
        Check.same("9: behind it", y.steps(0, 2), 2);
        Check.same("of HEAP 1, too", y.steps(1, 0), 1);
    }

    // ---- Promises 24 to 28: SINGLE numbers ----

    private static void worth() {
        Check.heading(WORTH, "WORTH; NONE: others.");
        RaisedQueue x = ofKeys("", 7);
        Check.same("of one", x.worth(0), Keys.bits(7));
        Check.same("of an empty one", x.worth(2), 0);
        Check.same("of none", x.worth(3), NONE);
        for (int far : Keys.FAR_OUT) {
            Check.same("heap " + far, x.worth(far), NONE);
        }
        Check.same("20 of the greatest", ofKeys("", 999, 999, 999, 999, 999, 999, 999, 999, 999, 999, 999, 999, 999, 999, 999,
            999, 999, 999, 999, 999).worth(0), Keys.bits(19980));
        Check.same("only 0", ofKeys("", 0, 0).worth(0), 0);
        Check.heading(WORTH, "its KEYS added in the order in which they would come");
        // each 0.1 is too little to move 999 + .. by a whole digit, together they are not
        String tenths = "";
        float up = 0f;
        for (int i = 0; i < 8; i++) {
            tenths += "item t" + (char) ('a' + i) + " plain 1 over 99 in a;";
            up += 1f / 99f;
        }
        float down = 999f;
        for (int i = 0; i < 8; i++) {
            down += 1f / 99f;
        }
        Check.same("the two orders differ", up + 999f == down, false);
        Check.same("the least first", Check.told("heap a; grows 1; item z plain 999 over 1 in a;" + tenths).worth(0),
            Float.floatToIntBits(up + 999f));
        Check.same("in a LIST as it stands", Check.told("heap a; grows 99; item z plain 999 over 1 in a;" + tenths.substring(0,
            tenths.length() / 8) + "item y plain 999 over 1 in a; item x plain 999 over 1 in a;").worth(0),
            Float.floatToIntBits(1f / 99f + 999f + 999f + 999f));
    }

    private static void mean() {
        Check.heading(MEAN, "MEAN: WORTH over how many there are, SINGLE (0: none), likewise. NONE: others.");
        RaisedQueue x = ofKeys("grows 1;", 7, 8);
        Check.same("of two", x.mean(0), Keys.bits(7.5));
        Check.same("of none in it", x.mean(2), 0);
        Check.same("of none", x.mean(3), NONE);
        for (int far : Keys.FAR_OUT) {
            Check.same("heap " + far, x.mean(far), NONE);
        }
        x.take(0);
        Check.same("of one", x.mean(0), Keys.bits(8));
        x.take(0);
        Check.same("emptied", x.mean(0), 0);
        Check.same("a third", ofKeys("", 1, 0, 0).mean(0), 0x3eaaaaab);
        Check.same("two thirds", ofKeys("", 1, 1, 0).mean(0), 0x3f2aaaab);
        Check.same("a 20th of 1", ofKeys("", 1, 0, 0, 0, 0, 0, 0, 0, 0, 0, 0, 0, 0, 0, 0, 0, 0, 0, 0, 0).mean(0), Keys.bits(0.05));
    }

    private static int bitsOf(String kind, String quotient) {
        return Check.told("heap a; item i " + kind + " " + quotient + " in a;").bits(0);
    }

    private static void singles() {
        Check.heading(BITS, "SINGLE numbers have 24 binary digits; what comes of two is the nearest one");
        Check.same("1/3: below the half, up", bitsOf("plain", "1 over 3"), 0x3eaaaaab);
        Check.same("2/7: above it, down", bitsOf("plain", "2 over 7"), 0x3e924925);
        Check.same("1/10", bitsOf("plain", "1 over 10"), 0x3dcccccd);
        Check.same("999/99", bitsOf("plain", "999 over 99"), 0x4121745d);
        Check.heading(BITS, "of two as near the even one");
        // 2/3 has its last digit at 2^-24, 1 + 2/3 at 2^-23: half way, to the even one, up; 1 + 4/5: down
        Check.same("1 + 2/3", Check.told("heap a; item i plain 2 over 3 in a; item j plain 1 over 1 in a;").worth(0),
            0x3fd55556);
        Check.same("1 + 4/5", Check.told("heap a; item i plain 4 over 5 in a; item j plain 1 over 1 in a;").worth(0),
            0x3fe66666);
        Check.same("1 over that of 2/3 and 1", bitsOf("odd", "2 over 3"), 0x3f199999);
        Check.same("1 over that of 4/5 and 1", bitsOf("odd", "4 over 5"), 0x3f0e38e4);
        Check.heading(BITS, "by its bits: the sign (0), 8 of the exponent (127 more than of the highest digit; 0 for 0), 23 of"
            + " the fraction behind its leading 1");
        Check.same("0", bitsOf("plain", "0 over 1"), 0);
        Check.same("1", bitsOf("plain", "1 over 1"), 127 << 23);
        Check.same("2", bitsOf("plain", "2 over 1"), 128 << 23);
        Check.same("3", bitsOf("plain", "3 over 1"), (128 << 23) + (1 << 22));
        Check.same("a half", bitsOf("plain", "1 over 2"), 126 << 23);
        Check.same("512", bitsOf("plain", "512 over 1"), 136 << 23);
        Check.same("511", bitsOf("plain", "511 over 1"), (135 << 23) + 255 * (1 << 15));
        Check.same("1/64", bitsOf("plain", "1 over 64"), 121 << 23);
        Check.same("1/128", bitsOf("urgent", "1 over 64"), 120 << 23);
        Check.same("just below 1", bitsOf("plain", "98 over 99"), Float.floatToIntBits(98f / 99f));
        Check.same("just above 1", bitsOf("plain", "99 over 98"), Float.floatToIntBits(99f / 98f));
    }

    private static void keys() {
        Check.heading(BITS, "plain: that; urgent: that times 0.5; late: that and the SINGLE nearest to 0.1; odd: 1 over that"
            + " and 1");
        String[] quotients = {"0 over 1", "0 over 99", "1 over 99", "999 over 1", "999 over 99", "1 over 3", "1 over 1"};
        int[][] due = {
            {0, 0, 0x3c257eb5, 0x4479c000, 0x4121745d, 0x3eaaaaab, 0x3f800000},
            {0, 0, 0x3ba57eb5, 0x43f9c000, 0x40a1745d, 0x3e2aaaab, 0x3f000000},
            {0x3dcccccd, 0x3dcccccd, 0x3de17ca4, 0x4479c666, 0x41230df7, 0x3eddddde, 0x3f8ccccd},
            {0x3f800000, 0x3f800000, 0x3f7d70a5, 0x3a83126f, 0x3db8a7df, 0x3f400000, 0x3f000000}};
        for (int kind = 0; kind < 4; kind++) {
            for (int i = 0; i < quotients.length; i++) {
                Check.same(KINDS[kind] + " " + quotients[i], bitsOf(KINDS[kind], quotients[i]), due[kind][i]);
            }
        }
        Check.heading(BITS, "BITS; NONE: others.");
        RaisedQueue x = ofKeys("", 4, 5);
        Check.same("the last one", x.bits(1), Keys.bits(5));
        Check.same("one beyond it", x.bits(2), NONE);
        for (int far : Keys.FAR_OUT) {
            Check.same("item " + far, x.bits(far), NONE);
        }
        x.take(0);
        Check.same("on the FLOOR", x.bits(0), Keys.bits(4));
        x.shelve(0, 0);
        Check.same("on a SHELF", x.bits(1), Keys.bits(5));
    }

    private static void thousand() {
        Check.heading(THOUSAND, "CUT: its KEY times 1000, SINGLE, cut to a whole number; NONE: others.");
        String[] quotients = {"plain 0 over 1", "plain 1 over 3", "plain 2 over 3", "plain 999 over 1", "plain 1 over 99",
            "plain 7 over 10", "late 999 over 1", "late 2 over 1", "odd 2 over 3", "odd 999 over 1", "urgent 7 over 10",
            "urgent 1 over 99", "odd 0 over 1"};
        // 7/10 is less than 0.7 by a hair, a thousand of it as SINGLE is not
        int[] due = {0, 333, 666, 999000, 10, 700, 999100, 2100, 599, 1, 350, 5, 1000};
        for (int i = 0; i < due.length; i++) {
            Check.same(quotients[i], Check.told("heap a; item i " + quotients[i] + " in a;").thousand(0), due[i]);
        }
        RaisedQueue x = ofKeys("", 4, 5);
        Check.same("the last one", x.thousand(1), 5000);
        Check.same("one beyond it", x.thousand(2), NONE);
        for (int far : Keys.FAR_OUT) {
            Check.same("item " + far, x.thousand(far), NONE);
        }
        x.take(0);
        Check.same("on the FLOOR", x.thousand(0), 4000);
    }

    private static void lift() {
        Check.heading(LIFT, "LIFT; NONE: others, in no HEAP.");
        RaisedQueue x = ofKeys("share 0;", 4, 6);
        Check.same("RAISED by 2", x.lift(0), Keys.bits(2));
        Check.same("not RAISED", x.lift(1), 0);
        Check.same("one beyond the last", x.lift(2), NONE);
        for (int far : Keys.FAR_OUT) {
            Check.same("item " + far, x.lift(far), NONE);
        }
        x.take(0);
        Check.same("on the FLOOR", x.lift(0), NONE);
        x.put(0, 1);
        Check.same("alone", x.lift(0), 0);
        x.shelve(0, 0);
        Check.same("on a SHELF", x.lift(1), NONE);
        Check.heading(LIFT, "CKEY of its NODE less its KEY, SINGLE, by its bits (0 or more)");
        Check.same("equal KEYS", ofKeys("share 0;", 5, 5).lift(0), 0);
        RaisedQueue y = Check.told("heap a; share 0; item i late 1 over 3 in a; item j plain 2 over 3 in a;");
        Check.same("SINGLE", y.lift(0), Float.floatToIntBits(2f / 3f - (1f / 3f + 0.1f)));
        RaisedQueue deep = ofKeys("grows (rank = 1) * 2;", 1, 2, 3, 7);
        Check.same("of a NODE below", deep.depth(2), 1);
        Check.same("by its CKEY, not the ROOT's", deep.lift(2), Keys.bits(4));
    }

    // ---- Promises 29, 30 ----

    private static void bound() {
        Check.heading(BOUND, "no more are RAISED than how many it has, divided by 2 to the power of share, cut");
        // of 4 by (rank = 1) * 2: 1 under 2 alone is RAISED, 5 under 5 is not
        RaisedQueue four = ofKeys("share 2; grows (rank = 1) * 2;", 1, 2, 5, 5);
        Check.same("1 RAISED", four.heap(0, 2), 1);
        Check.same("1 of 4 by share 2", four.bound(0), true);
        Check.same("1 of 4 by share 3", ofKeys("share 3; grows (rank = 1) * 2;", 1, 2, 5, 5).bound(0), false);
        Check.same("1 of 3 by share 2: cut", ofKeys("share 2; grows (rank = 1) * 2;", 1, 2, 5).bound(0), false);
        Check.same("1 of 3 by share 1: cut", ofKeys("share 1; grows (rank = 1) * 2;", 1, 2, 5).bound(0), true);
        Check.same("2 of 4 by share 1", ofKeys("share 1; grows 2;", 1, 2, 3, 4).bound(0), true);
        Check.same("2 of 4 by share 2", ofKeys("share 2; grows 2;", 1, 2, 3, 4).bound(0), false);
        Check.same("3 of 4 by share 1", ofKeys("share 1; grows 4;", 1, 2, 3, 4).bound(0), false);
        Check.same("3 of 4 by share 0", ofKeys("share 0; grows 4;", 1, 2, 3, 4).bound(0), true);
        Check.same("15 of 16 by share 0", ofKeys("share 0; grows 99;", Keys.upTo(16)).bound(0), true);
        Check.same("none of 20 by share 6", ofKeys("share 6; grows 1;", Keys.upTo(20)).bound(0), true);
        Check.same("1 of 20 by share 6", ofKeys("share 6; grows 1 + (all = 2);", Keys.upTo(20)).bound(0), false);
        Check.heading(BOUND, "BOUND; false: others.");
        Check.same("an empty one", four.bound(2), true);
        Check.same("none", four.bound(3), false);
        for (int far : Keys.FAR_OUT) {
            Check.same("heap " + far, four.bound(far), false);
        }
    }

    private static void depth() {
        Check.heading(DEPTH, "DEPTH; NONE: others, in no HEAP.");
        RaisedQueue x = ofKeys("grows 1;", 1, 2, 3, 4, 5);
        Check.same("in a ROOT of RANK 2", x.depth(0), 0);
        Check.same("one below", x.depth(1), 1);
        Check.same("two below", x.depth(3), 2);
        Check.same("in a ROOT of RANK 0", x.depth(4), 0);
        Check.same("one beyond the last", x.depth(5), NONE);
        for (int far : Keys.FAR_OUT) {
            Check.same("item " + far, x.depth(far), NONE);
        }
        x.take(0);
        Check.same("on the FLOOR", x.depth(0), NONE);
        x.shelve(0, 0);
        Check.same("on a SHELF", x.depth(1), NONE);
        RaisedQueue deep = ofKeys("grows 1;", Keys.upTo(16));
        Check.same("four below", deep.depth(15), 4);
        Check.same("none above", deep.depth(0), 0);
        Check.same("of one LIST none is below", ofKeys("grows 99;", Keys.upTo(16)).depth(15), 0);
    }

    // ---- Promises 31 to 33 ----

    private static void see() {
        Check.heading(SEE, "SEEN: true; false: others, 8 there are. (0 to 9)");
        RaisedQueue x = ofKeys("", 1);
        Check.same("i 0", x.see(0, 0, true), true);
        Check.same("i 9", x.see(9, 0, false), true);
        Check.same("i 10", x.see(10, 0, true), false);
        Check.same("i 10 would not", x.see(10, 0, false), false);
        Check.same("KIND 3", x.see(0, 3, false), true);
        Check.same("KIND 4", x.see(0, 4, true), false);
        for (int far : Keys.FAR_OUT) {
            Check.same("i " + far, x.see(far, 0, true), false);
            Check.same("KIND " + far, x.see(0, far, false), false);
        }
        Check.same("3 SEEN", x.count(8), 3);
        for (int i = 3; i < 8; i++) {
            Check.same("the same again counts: " + i, x.see(0, 0, true), true);
        }
        Check.same("8 SEEN", x.count(8), 8);
        Check.same("no ninth", x.see(0, 0, true), false);
        Check.same("no ninth that would not", x.see(0, 1, false), false);
        Check.same("8 SEEN still", x.count(8), 8);
        Check.same("SEEN can't be undone", x.count(9), 0);
        Check.same("seven of these and the last one hold", x.who(), 1);
    }

    private static void seenIsSo() {
        Check.heading(WHO, "that an unknown one of the HEAPS would give an ITEM of a KIND as the i-th (0 to 9), or would not"
            + " (also if it gives none)");
        String kinds = "heap a; heap b; heap c; grows 1; item i plain 0 over 1 in a; item j odd 0 over 1 in a;"
            + " item k plain 0 over 1 in b;";
        RaisedQueue x = Check.told(kinds);
        Check.same("none SEEN", x.who(), 7);
        x.see(0, 0, true);
        Check.same("c gives none", x.who(), 3);
        x.see(1, 3, true);
        Check.same("b gives no second one", x.who(), 1);
        RaisedQueue y = Check.told(kinds);
        y.see(1, 3, false);
        Check.same("b and c give none: they would not", y.who(), 6);
        y.see(9, 0, false);
        Check.same("none gives a tenth one", y.who(), 6);
        y.see(9, 0, true);
        Check.same("none is so", y.who(), 0);
        RaisedQueue ten = ofKeys("grows 1;", Keys.upTo(10));
        ten.see(9, 0, true);
        Check.same("the tenth of ten", ten.who(), 1);
        RaisedQueue nine = ofKeys("grows 1;", Keys.upTo(9));
        nine.see(9, 0, true);
        Check.same("the tenth of nine", nine.who(), 0);
        RaisedQueue eleven = ofKeys("grows 1;", Keys.upTo(11));
        eleven.see(0, 0, true);
        Check.same("the eleventh of one HEAP is not the first of the next one", eleven.who(), 1);
        for (int kind = 0; kind < 4; kind++) {
            RaisedQueue z = Check.told("heap a; item i " + KINDS[kind] + " 1 over 1 in a;");
            z.see(0, kind, true);
            Check.same("is " + KINDS[kind], z.who(), 1);
            z.see(0, (kind + 1) % 4, false);
            Check.same("is no " + KINDS[(kind + 1) % 4], z.who(), 1);
            z.see(0, kind, false);
            Check.same("both can't be", z.who(), 0);
        }
        Check.heading(WHO, "8 at most, as all is when it is asked");
        RaisedQueue later = Check.told(kinds);
        later.see(0, 3, true);
        Check.same("a gives plain first", later.who(), 0);
        later.take(0);
        Check.same("a gives odd now", later.who(), 1);
        later.put(0, 1);
        later.meld(0, 2);
        Check.same("c gives it now", later.who(), 4);
        Check.heading(WHO, "WHO, as bits.");
        Check.same("of one HEAP", Check.told("heap a;").who(), 1);
        Check.same("of two", Check.told("heap a; heap b;").who(), 3);
        Check.same("of none", Check.told("").who(), 0);
    }

    private static void ask() {
        Check.heading(ASK, "ASK, as 4 * i + the KIND; NONE: none parts them.");
        Check.same("of no HEAP", Check.told("").ask(), NONE);
        Check.same("of one", ofKinds(new int[] {1}).ask(), NONE);
        Check.same("of two empty ones", Check.told("heap a; heap b;").ask(), NONE);
        Check.same("of an empty one and one", Check.told("heap a; heap b; item i odd 1 over 1 in b;").ask(), 3);
        Check.same("of two alike", ofKinds(new int[] {1, 2}, new int[] {1, 2}).ask(), NONE);
        RaisedQueue x = ofKinds(new int[] {1}, new int[] {2}, new int[] {3});
        Check.same("of three", x.ask(), 1);
        x.see(0, 1, false);
        Check.same("of the two that are left", x.ask(), 2);
        x.see(0, 2, false);
        Check.same("of the one that is left", x.ask(), NONE);
        x.see(0, 3, false);
        Check.same("of none that is left", x.ask(), NONE);

        Check.heading(ASK, "i and the KIND by which the greater number of WHO [..] is the least, if that is less than all (0 to 9)");
        int[] ten = new int[10];
        int[] other = new int[10];
        Check.same("nothing parts them", ofKinds(ten, other).ask(), NONE);
        other[9] = 3;
        Check.same("the tenth parts them", ofKinds(ten, other).ask(), 4 * 9);
        ten[9] = 3;
        Check.same("nothing parts them again", ofKinds(ten, other).ask(), NONE);
        Check.same("nine and ten of them", ofKinds(new int[9], new int[10]).ask(), 4 * 9);
        ten[0] = 3;
        Check.same("the first one parts them", ofKinds(ten, other).ask(), 0);
    }

    /** Of each HEAP the KINDS in the order in which they come: by NODES of one ITEM, the least KEY first. */
    private static RaisedQueue ofKinds(int[]... kinds) {
        StringBuilder text = new StringBuilder("grows 1;");
        char name = 'a';
        for (int heap = 0; heap < kinds.length; heap++) {
            text.append("heap h").append((char) ('a' + heap)).append(';');
            for (int i = 0; i < kinds[heap].length; i++) {
                text.append("item y").append(name++).append(' ').append(KINDS[kinds[heap][i]]).append(' ')
                    .append(quotient(kinds[heap][i], i)).append(" in h").append((char) ('a' + heap)).append(';');
            }
        }
        return Check.told(text.toString());
    }

    /** The KEY is about the place and 5 over 40 for each KIND. */
    private static String quotient(int kind, int place) {
        switch (kind) {
            case 0:
                return place + 5 + " over 40";
            case 1:
                return 2 * (place + 5) + " over 40";
            case 2:
                return place + 1 + " over 40";
            default:
                return 35 - place + " over " + (place + 5);
        }
    }

    private static void askFirst() {
        Check.heading(ASK, "of equal ones the first by i, then KINDS");
        Check.same("by KINDS: late ahead of odd", ofKinds(new int[] {3}, new int[] {2}).ask(), 2);
        Check.same("by KINDS: plain ahead of odd", ofKinds(new int[] {3}, new int[] {0}).ask(), 0);
        Check.same("by KINDS: urgent ahead of late", ofKinds(new int[] {2}, new int[] {1}).ask(), 1);
        Check.same("by i: 0 ahead of 1, though odd", ofKinds(new int[] {3, 0}, new int[] {}).ask(), 3);
        Check.same("by i: 0, odd, ahead of 1, plain", ofKinds(new int[] {3, 0}, new int[] {2, 1}).ask(), 2);
        Check.same("by i: 1 where 0 is alike", ofKinds(new int[] {0, 2}, new int[] {0, 1}).ask(), 4 + 1);
        Check.same("of three: two that would", ofKinds(new int[] {0, 1}, new int[] {0, 1}, new int[] {0, 2}).ask(), 4 + 1);
        Check.same("of three: one that would", ofKinds(new int[] {0, 2}, new int[] {0, 2}, new int[] {0, 1}).ask(), 4 + 1);
    }

    // ---- Promise 34 ----

    private static void daysOthers() {
        Check.heading(DAYS, "DAYS by a SEED (0 to 9999), of so many (1 to 99), what 0, 1, 2: how many; NONE: others.");
        RaisedQueue x = ofKeys("", 1, 2, 3);
        for (int what = 0; what <= 2; what++) {
            Check.same("SEED 0, what " + what, x.days(0, 1, what) != NONE, true);
            Check.same("SEED 9999, what " + what, x.days(9999, 1, what) != NONE, true);
            Check.same("99 of them, what " + what, x.days(0, 99, what) != NONE, true);
            Check.same("SEED 10000, what " + what, x.days(10000, 1, what), NONE);
            Check.same("none of them, what " + what, x.days(0, 0, what), NONE);
            Check.same("100 of them, what " + what, x.days(0, 100, what), NONE);
            for (int far : Keys.FAR_OUT) {
                Check.same("SEED " + far, x.days(far, 1, what), NONE);
                Check.same("many " + far, x.days(0, far, what), NONE);
            }
        }
        Check.same("9 are SHUT", x.count(6), 9);
        Check.same("what 3", x.days(0, 1, 3), NONE);
        for (int far : Keys.FAR_OUT) {
            Check.same("what " + far, x.days(0, 1, far), NONE);
        }
        Check.same("the others are not SHUT", x.count(6), 9);

        Check.heading(DAYS, "each, if there are HEAPS and ITEMS");
        for (int seed = 0; seed < 20; seed++) {
            Check.same("without both", Check.told("").days(seed, 99, 0), 0);
            Check.same("without ITEMS none is MELDED", Check.told("heap a; heap b;").days(seed, 99, 0), 0);
        }
        Check.same("without both: FLOOR", Check.told("").days(0, 99, 2), 0);
        Check.same("SHUT even so", shutOf(Check.told("heap a;")), 1);
    }

    private static int shutOf(RaisedQueue x) {
        x.days(5, 5, 0);
        return x.count(6);
    }

    /** How many could be, how many are RAISED, how many lie on the FLOOR. */
    private static void daysAre(RaisedQueue x, int seed, int many, int could, int raised, int floor) {
        Check.same("SEED " + seed + ", " + many + ": could be", x.days(seed, many, 0), could);
        Check.same("SEED " + seed + ", " + many + ": RAISED", x.days(seed, many, 1), raised);
        Check.same("SEED " + seed + ", " + many + ": FLOOR", x.days(seed, many, 2), floor);
    }

    private static void daysWorks() {
        Check.heading(DAYS, "0, 1: that ITEM is PUT into that HEAP, 2: TAKE of that one, 3: that one is MELDED into the next one"
            + " (0 behind the last one; each if it can be)");
        // a has 5, b and c are empty, 6, 7, 8 lie on the FLOOR
        RaisedQueue x = ofKeys("share 0;", 6, 7, 8, 5);
        x.take(0);
        x.take(0);
        x.take(0);
        x.take(0);
        x.put(3, 0);
        Check.same("three on the FLOOR", x.count(4), 3);
        // the first DRAWS of each SEED below 3, 4 and 4 stand behind it
        daysAre(x, 30, 1, 1, 1, 2); // 0 2 0: 8 is PUT into a, 5 and 8 are in one LIST
        daysAre(x, 47, 1, 1, 1, 2); // 0 2 1: likewise
        daysAre(x, 74, 1, 1, 0, 2); // 1 0 0: 6 is PUT into b
        daysAre(x, 46, 1, 0, 0, 3); // 0 3 0: 5 is in a HEAP
        daysAre(x, 26, 1, 0, 0, 3); // 1 3 1: 5 is in another HEAP
        daysAre(x, 114, 1, 1, 0, 4); // 0 0 2: 5 is TAKEN
        daysAre(x, 8, 1, 0, 0, 3); // 1 0 2: b is empty
        daysAre(x, 20, 1, 0, 0, 3); // 2 0 2: c is empty
        daysAre(x, 11, 1, 1, 0, 3); // 0 0 3: a into b
        daysAre(x, 57, 1, 1, 0, 3); // 1 0 3: b into c, both empty
        x.put(1, 2);
        daysAre(x, 34, 1, 1, 1, 2); // 2 0 3: c into a: 5 and 7 in one LIST
        daysAre(x, 11, 1, 1, 0, 2); // 0 0 3: a into b, which is empty
        daysAre(x, 57, 1, 1, 0, 2); // 1 0 3: b, which is empty, into c
        x.put(0, 1);
        daysAre(x, 11, 1, 1, 1, 1); // 0 0 3: a into b: 5 and 6 in one LIST
        daysAre(x, 57, 1, 1, 1, 1); // 1 0 3: b into c: 6 and 7 in one LIST
        Check.same("c is empty", x.take(2), 1);
        daysAre(x, 57, 1, 1, 0, 2); // 1 0 3: b into c, which is empty, not into a
        daysAre(x, 34, 1, 1, 0, 2); // 2 0 3: c, which is empty, into a, not into b
        daysAre(x, 11, 1, 1, 1, 2); // 0 0 3: a into b, not into c
        Check.same("put it back", x.put(1, 2), true);
        Check.same("all is as ahead", x.heap(0, 0) + x.heap(1, 0) + x.heap(2, 0), 3);

        Check.heading(DAYS, "DAYS by a SEED of so many (1 to 99)");
        // one HEAP and one ITEM; the third DRAWS by SEED 0: 0 3 2 0 3 1, by SEED 9999: 1 3 0 0 1 2
        RaisedQueue one = Check.told("heap a; item i odd 1 over 1 in a;");
        int[] could = {0, 0, 1, 2, 2, 2};
        int[] floor = {0, 0, 1, 0, 0, 0};
        for (int many = 1; many <= 6; many++) {
            daysAre(one, 0, many, could[many - 1], 0, floor[many - 1]);
            daysAre(one, 9999, many, many == 6 ? 1 : 0, 0, many == 6 ? 1 : 0);
        }
        daysAre(one, 2, 1, 0, 0, 0); // 0 0 3: the only HEAP into itself can't be
    }

    // ---- Promise 35 ----

    private static void marksOthers() {
        Check.heading(MARK, "A MARK is laid (back: gone back to): true; false: none such, nothing is on it (back).");
        RaisedQueue x = ofKeys("grows 1;", 1, 2, 3);
        Check.same("nothing is on 0", x.mark(0, true), false);
        Check.same("nothing is on 1", x.mark(1, true), false);
        Check.same("1 is laid", x.mark(1, false), true);
        Check.same("nothing is on 0 still", x.mark(0, true), false);
        Check.same("back to 1", x.mark(1, true), true);
        Check.same("0 is laid", x.mark(0, false), true);
        Check.same("back to 0", x.mark(0, true), true);
        Check.same("no 2", x.mark(2, false), false);
        Check.same("no 2 to go back to", x.mark(2, true), false);
        for (int far : Keys.FAR_OUT) {
            Check.same("no " + far, x.mark(far, false), false);
            Check.same("no " + far + " to go back to", x.mark(far, true), false);
        }
        x.take(0);
        Check.same("what is refused changes nothing", x.mark(2, true), false);
        Check.same("one is out", x.heap(0, 0), 2);
        Check.same("nor what can be undone", x.count(9), 1);
        Check.same("a MARK without a QUEUE", new RaisedQueue().mark(1, false), true);
    }

    private static void marksHold() {
        Check.heading(MARK, "MARKS 0 and 1 hold all but the texts, what was SHUT");
        RaisedQueue x = ofKeys("grows 1;", 1, 2, 3, 4, 5);
        x.shelve(0, 0);
        x.shelve(0, 0);
        x.put(0, 1);
        x.take(0);
        x.see(0, 0, true);
        Check.same("a WORK", Check.work(x, "take a;"), 0);
        x.first(0);
        Check.same("laid", x.mark(0, false), true);
        x.put(1, 2);
        x.put(2, 2);
        x.meld(0, 1);
        x.shelve(1, 0);
        x.see(1, 0, true);
        x.see(2, 0, true);
        Check.same("another WORK", Check.work(x, "take a; take b;"), 0);
        Check.write(x, "share 1;");
        x.first(1);
        x.first(1);
        Check.same("the other one is laid", x.mark(1, false), true);
        Check.same("back to 0", x.mark(0, true), true);
        Check.same("a", x.heap(0, 0), 2);
        Check.same("b", x.heap(1, 0), 1);
        Check.same("c", x.heap(2, 0), 0);
        Check.same("the TREE in a", x.listed(0, 0, 0), 4);
        Check.same("what stands on the SHELF", x.shelf(0), 1);
        Check.same("where", x.item(1, 3), 1);
        Check.same("what lies on the FLOOR", x.item(2, 1) == NONE && x.item(2, 2) == NONE, true);
        Check.same("SEEN", x.count(8), 1);
        Check.same("who gives plain first", x.who(), 3);
        Check.same("the TAPE stays", x.count(10), 8);
        Check.same("the WORK stays", x.count(7), 2);
        Check.same("what was SHUT stays", x.count(6), 4);
        Check.same("back to 1", x.mark(1, true), true);
        Check.same("b", x.heap(1, 0), 2);
        Check.same("c", x.heap(2, 0), 2);
        Check.same("the SHELF", x.item(0, 3), 0);
        Check.same("SEEN", x.count(8), 3);
        Check.same("what was SHUT stays", x.count(6), 4);
        Check.same("the TAPE can be read", x.queue(), 0);
        Check.same("no MARK behind a QUEUE", x.mark(0, true), false);

        Check.heading(MARK, "A MARK is laid (back: gone back to), again");
        RaisedQueue y = ofKeys("grows 1;", 1, 2, 3);
        y.mark(0, false);
        for (int i = 0; i < 3; i++) {
            Check.same("take", y.take(0), 0);
            Check.same("it is there still", y.mark(0, true), true);
        }
        y.take(0);
        Check.same("laid over it", y.mark(0, false), true);
        y.take(0);
        Check.same("back", y.mark(0, true), true);
        Check.same("as it was laid last", y.first(0), 1);
        RaisedQueue eight = ofKeys("grows 1;", 1, 2, 3);
        eight.mark(1, false);
        for (int i = 0; i < 8; i++) {
            eight.see(9, 0, false);
        }
        eight.mark(0, false);
        Check.same("8 SEEN: no ninth", eight.see(9, 0, false), false);
        eight.mark(1, true);
        Check.same("back to none SEEN", eight.count(8), 0);
        Check.same("one can be SEEN", eight.see(0, 1, true), true);
        Check.same("which is not so", eight.who(), 0);
        eight.mark(0, true);
        Check.same("back to 8", eight.count(8), 8);
        Check.same("no ninth again", eight.see(9, 0, false), false);
        Check.same("all 8 are as they were", eight.who(), 7);
    }

    private static void marksOfTheirOwn() {
        Check.heading(MARK, "MARKS 0 and 1 hold all, each its own");
        RaisedQueue x = Check.told("heap a; heap b; heap c; grows 1; item i plain 1 over 1 in a; item j odd 1 over 1 in b;"
            + " item k late 1 over 1 in c;");
        x.see(0, 0, false);
        x.mark(0, false);
        for (int i = 1; i < 7; i++) {
            x.see(i, 3, false);
        }
        x.see(0, 3, false);
        x.mark(1, false);
        Check.same("8 SEEN: c", x.who(), 4);
        x.mark(0, true);
        Check.same("1 SEEN: b, c", x.who(), 6);
        x.see(0, 2, false);
        Check.same("2 SEEN: b", x.who(), 2);
        x.mark(0, false);
        x.mark(1, true);
        Check.same("8 SEEN again: c", x.who(), 4);
        x.mark(0, true);
        Check.same("2 SEEN again: b", x.who(), 2);
        x.mark(1, false);
        x.see(0, 3, false);
        Check.same("3 SEEN: none", x.who(), 0);
        x.mark(1, true);
        Check.same("2 SEEN: b", x.who(), 2);
        // NODES below others: what stands above each is held, too
        RaisedQueue deep = ofKeys("grows 1;", 8, 7, 6, 5, 4, 3, 2, 1);
        deep.mark(1, false);
        deep.take(0);
        deep.take(0);
        deep.meld(0, 1);
        deep.mark(1, true);
        Check.same("three NODES above one", deep.depth(0), 3);
        Check.same("in one TREE", deep.tree(0, 0, 4), 8);
        Check.same("MELDED", deep.meld(0, 2), true);
        Check.same("all of them", deep.heap(2, 0), 8);
    }

    private static void marksAndUndo() {
        Check.heading(MARK, "(nothing can be undone when one is gone back to)");
        RaisedQueue x = ofKeys("grows 1;", 1, 2, 3, 4, 5);
        x.take(0);
        x.take(0);
        x.mark(0, false);
        Check.same("when it is laid all can be", x.count(9), 2);
        x.take(0);
        Check.same("three", x.count(9), 3);
        Check.same("undo behind a MARK", x.undo(), true);
        Check.same("undo ahead of it", x.undo(), true);
        Check.same("1 is there", x.count(9), 1);
        Check.same("back", x.mark(0, true), true);
        Check.same("nothing can be undone", x.count(9), 0);
        Check.same("undo", x.undo(), false);
        Check.same("two are out", x.heap(0, 0), 3);
        Check.same("take", x.take(0), 2);
        Check.same("that can be undone", x.undo(), true);
        Check.same("no more", x.undo(), false);
        Check.same("as the MARK told", x.first(0), 2);
        for (int i = 0; i < 3; i++) {
            x.take(0);
        }
        for (int i = 0; i < 5; i++) {
            x.put(i, 2);
        }
        Check.same("8 again", x.count(9), 8);
        for (int i = 0; i < 8; i++) {
            Check.same("undo", x.undo(), true);
        }
        Check.same("not ahead of the MARK", x.undo(), false);
        Check.same("as the MARK told", x.heap(0, 0), 3);
    }

    // ---- Promise 36 ----

    private static void countsAre(RaisedQueue x, int... due) {
        for (int what = 0; what < due.length; what++) {
            Check.same("what " + what, x.count(what), due[what]);
        }
    }

    private static void counts() {
        Check.heading(COUNT, "What 0: HEAPS [..] 10: signs on the TAPE. NONE for another what.");
        RaisedQueue x = ofKeys("share 0;", 1, 2, 3, 4);
        countsAre(x, 3, 2, 4, 0, 0, 3, 0, 0, 0, 0, 0);
        Check.same("what 11", x.count(11), NONE);
        for (int far : Keys.FAR_OUT) {
            Check.same("what " + far, x.count(far), NONE);
        }
        Check.same("count is not SHUT", x.count(6), 0);
        Check.same("a WORK", Check.work(x, "take a; take b;"), 0);
        x.take(0);
        x.shelve(0, 0);
        x.shelve(0, 1);
        x.put(0, 2);
        x.see(9, 3, false);
        x.first(2);
        x.first(3);
        x.feed(32, 32, 0);
        countsAre(x, 3, 2, 4, 0, 1, 0, 1, 2, 1, 4, 2);
        countsAre(Check.told("heap a; share 6;"), 1, 0, 0, 6, 0, 0, 0, 0, 0, 0, 0);
        Check.heading(COUNT, "4: how many ITEMS lie on the FLOOR, 5: how many are RAISED");
        RaisedQueue y = Check.told("heap a; heap b; share 0;" + Keys.plain('a', "a", Keys.upTo(16)) + Keys.plain('q', "b", 1, 2, 2, 2));
        Check.same("of both HEAPS", y.count(5), y.heap(0, 2) + y.heap(1, 2));
        Check.same("1 under 2 alone, in b", y.heap(1, 2), 1);
        for (int i = 0; i < 20; i++) {
            Check.same("FLOOR", y.count(4), i);
            y.take(i < 16 ? 0 : 1);
        }
        Check.same("all 20", y.count(4), 20);
        Check.same("none RAISED", y.count(5), 0);
    }

    // ---- SHUT ----

    /** Each question of a HEAP, by a number from 0; the second argument is left out where there is none. */
    private static void askOf(RaisedQueue x, int question, int heap, int other) {
        switch (question) {
            case 0: x.first(heap); break;
            case 1: comesOf(x, heap, other); break;
            case 2: awayOf(x, heap, other); break;
            case 3: x.wrongs(heap); break;
            case 4: x.far(heap); break;
            case 5: x.split(heap, other); break;
            case 6: x.steps(heap, other); break;
            case 7: x.worth(heap); break;
            default: x.mean(heap); break;
        }
    }

    private static void notShut(RaisedQueue x, int a, int b) {
        x.item(a, b);
        x.heap(a, b);
        x.tree(a, 0, b);
        x.listed(a, b, 0);
        x.shelf(a);
        x.judged(a);
        x.select(a, b);
        x.bits(a);
        x.thousand(a);
        x.lift(a);
        x.bound(a);
        x.depth(a);
        x.mark(a, true);
        x.count(a);
        x.undo();
    }

    private static void shutOnce() {
        Check.heading("Promises 16 to 20, 22 to 25", "NEXT, COMES, AWAY, WRONG, FAR, SPLIT, STEPS, WORTH, MEAN of a HEAP told"
            + " [..] are SHUT once each time that they are asked, whatever else they are asked with, whatever they answer or"
            + " throw");
        int[] others = {0, 1, 2, 3, 20, -1, Integer.MAX_VALUE, Integer.MIN_VALUE};
        for (int question = 0; question < 9; question++) {
            RaisedQueue x = Check.told("heap a; heap b;" + Keys.plain('a', "a", 1, 2, 3));
            int due = 0;
            for (int other : others) {
                for (int heap = 0; heap < 2; heap++) {
                    askOf(x, question, heap, other);
                    due++;
                    Check.same("question " + question + " of heap " + heap + " and " + other, x.count(6), due);
                }
                for (int heap : new int[] {2, 3, -1, Integer.MAX_VALUE, Integer.MIN_VALUE}) {
                    askOf(x, question, heap, other);
                }
                Check.same("question " + question + " of no HEAP told", x.count(6), due);
            }
        }
        Check.heading("Promises 32 to 34, who, ask, days", "WHO, ASK, and DAYS with a SEED, many, what as they may be are SHUT"
            + " once each time");
        RaisedQueue x = ofKeys("", 1);
        x.who();
        Check.same("who", x.count(6), 1);
        x.ask();
        Check.same("ask", x.count(6), 2);
        x.days(0, 1, 0);
        Check.same("days", x.count(6), 3);
        x.days(9999, 99, 2);
        Check.same("days at their ends", x.count(6), 4);
        x.days(10000, 1, 0);
        x.days(-1, 1, 0);
        x.days(0, 0, 0);
        x.days(0, 100, 0);
        x.days(0, 1, -1);
        x.days(0, 1, 3);
        Check.same("days as they may not be", x.count(6), 4);
        RaisedQueue none = new RaisedQueue();
        none.who();
        none.ask();
        none.days(0, 1, 0);
        Check.same("without a QUEUE, too", none.count(6), 3);
        Check.heading("Promises 5 to 15, 21, 26 to 31, 35, 36", "What TAKES here is tried, and SHUT behind itself");
        RaisedQueue y = ofKeys("", 1, 2, 3);
        for (int a = -1; a < 4; a++) {
            for (int b = -1; b < 5; b++) {
                notShut(y, a, b);
            }
        }
        y.put(0, 0);
        y.take(0);
        y.meld(0, 1);
        y.shelve(1, 0);
        y.see(0, 0, true);
        Check.same("all else is not SHUT", y.count(6), 0);
    }

    private static String picture(RaisedQueue x) {
        StringBuilder text = new StringBuilder();
        for (int heap = 0; heap < 2; heap++) {
            int trees = x.heap(heap, 1);
            for (int tree = 0; tree < trees; tree++) {
                text.append(" tree").append(x.tree(heap, tree, 0)).append(' ').append(x.tree(heap, tree, 3));
                int size = x.tree(heap, tree, 2);
                for (int i = 0; i < size; i++) {
                    text.append(" l").append(x.listed(heap, tree, i));
                }
            }
        }
        for (int i = 0; i < 7; i++) {
            text.append(" i").append(x.item(i, 1)).append(x.item(i, 3));
        }
        for (int what : new int[] {4, 5, 7, 8, 9, 10}) {
            text.append(" c").append(x.count(what));
        }
        return text.toString();
    }

    private static void allIsAsAhead() {
        Check.heading("Promises 16 to 34", "all is as ahead, however it ended");
        RaisedQueue x = Check.told("heap a; heap b; shelf s plain; share 0;" + Keys.plain('a', "a", 9, 2, 7, 4, 5) + Keys.plain('f', "b", 1, 2));
        x.take(0);
        x.shelve(1, 0);
        x.see(0, 0, true);
        x.feed(32, 0, 0);
        String before = picture(x);
        for (int question = 0; question < 9; question++) {
            for (int other : new int[] {0, 1, 9}) {
                askOf(x, question, 0, other);
                askOf(x, question, 1, other);
            }
        }
        Check.same("behind the questions of a HEAP", picture(x), before);
        x.who();
        x.ask();
        Check.same("behind WHO and ASK", picture(x), before);
        for (int seed = 0; seed < 20; seed++) {
            x.days(seed, 99, seed % 3);
        }
        Check.same("behind DAYS", picture(x), before);
        x.judged(0);
        x.judged(2);
        Check.same("behind JUDGED", picture(x), before);
        Check.same("it can be undone as ahead", x.undo(), true);
        Check.same("undone", x.heap(1, 0), 2);
    }

    private static final int QUESTIONS = 3 * 9 + 6;

    /** What a question of three HEAPS answers; the last six are of no HEAP. */
    private static int answer(RaisedQueue x, int question) {
        int heap = question % 3;
        switch (question / 3) {
            case 0: return x.first(heap);
            case 1: return comesOf(x, heap, 1);
            case 2: return awayOf(x, heap, heap == 0 ? 1 : heap == 1 ? 5 : 8);
            case 3: return x.wrongs(heap);
            case 4: return x.far(heap);
            case 5: return x.split(heap, 1);
            case 6: return x.steps(heap, 2);
            case 7: return x.worth(heap);
            case 8: return x.mean(heap);
            case 9: return heap == 0 ? x.who() : heap == 1 ? x.ask() : x.days(77, 40, 1);
            default: return heap == 0 ? x.days(77, 40, 2) : x.judged(heap);
        }
    }

    private static RaisedQueue ofThree() {
        RaisedQueue x = Check.told("heap a; heap b; heap c; share 0;" + Keys.plain('a', "a", 8, 5, 7, 6)
            + Keys.plain('e', "b", 9, 3, 4) + Keys.plain('h', "c", 2, 1, 2, 1, 5, 6));
        Check.same("a WORK", Check.work(x, "take a; take b; meld a b; take c; take c;"), 0);
        Check.same("SEEN", x.see(3, 3, false), true);
        Check.same("take", x.take(2) >= 0, true);
        return x;
    }

    private static void questionsDoNotMix() {
        Check.heading("Promises 15 to 34", "What TAKES here is tried, and SHUT behind itself: all is as ahead");
        int[] alone = new int[QUESTIONS];
        for (int i = 0; i < QUESTIONS; i++) {
            alone[i] = answer(ofThree(), i);
        }
        for (int ahead = 0; ahead < QUESTIONS; ahead++) {
            RaisedQueue x = ofThree();
            for (int i = 0; i < QUESTIONS; i++) {
                answer(x, ahead);
                Check.same("question " + i + " behind " + ahead, answer(x, i), alone[i]);
            }
        }
    }

    // ---- the last call ----

    private static void lastCall() {
        Check.heading("Promises 10, 11, 6, put, take, heap", "An object is used for at most 512 calls after it has been made");
        // of equal CKEYS the least RANK comes: so one ITEM keeps each great RANK, and 256 PUTS of 20 ITEMS come to RANK 8
        StringBuilder text = new StringBuilder("heap h;heap k;share 6;");
        for (int i = 0; i < 20; i++) {
            text.append("item z").append((char) ('a' + i)).append(" odd 1over 1in ").append(i < 16 ? 'h' : 'k').append(';');
        }
        RaisedQueue x = Check.told(text.toString());
        int calls = (text.length() + 23) / 24 + 1;
        boolean[] out = new boolean[20];
        for (int i = 0; i < 4; i++) {
            out[x.take(1)] = true;
            calls++;
        }
        int in = 16;
        for (int time = 1; time < 16; time++) {
            for (; in > Integer.bitCount(time); in--) {
                out[x.take(0)] = true;
                calls++;
            }
            for (int i = 0; in < 16 + Integer.bitCount(time); i++) {
                if (out[i]) {
                    x.put(i, 0);
                    out[i] = false;
                    in++;
                    calls++;
                }
            }
        }
        for (; calls < 511; calls++) {
            x.count(0);
        }
        Check.same("the 511 calls", calls, 511);
        Check.same("the 512th: the RANK", x.heap(0, 3), 8);
    }
}
