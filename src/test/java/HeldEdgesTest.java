/**
 * Promises 5 to 15, with part 2 of the terms, at their edges: each heading is a sentence of the document that names
 * one, with the promise that needs it, and its rows stand on both sides: the last that is allowed, the first that is not.
 */
public final class HeldEdgesTest {
    private static final int NONE = RaisedQueue.NONE;
    private static final String ITEM = "Promise 5, item";
    private static final String HEAP = "Promise 6, heap";
    private static final String TREE = "Promise 7, tree";
    private static final String LISTED = "Promise 8, listed";
    private static final String SHELF = "Promise 9, shelf";
    private static final String PUT = "Promise 10, put";
    private static final String TAKE = "Promise 11, take";
    private static final String MELD = "Promise 12, meld";
    private static final String SHELVE = "Promise 13, shelve";
    private static final String UNDO = "Promise 14, undo";
    private static final String JUDGED = "Promise 15, judged";

    private HeldEdgesTest() {
    }

    public static void main(String[] args) {
        itemOthers();
        itemPlaces();
        itemRaised();
        heapOthers();
        treeOthers();
        treeValues();
        listedOthers();
        shelfOthers();
        putOthers();
        putFromAnywhere();
        joinTakesItsPlace();
        joinMakesARoot();
        siftAsLongAs();
        siftChildren();
        takeOthers();
        takeLeastRoot();
        takeHalfOfTarget();
        takeLastOfAList();
        meldOthers();
        meldByRanks();
        shelveOthers();
        shelvePlaces();
        undoLastEight();
        undoEachWork();
        judgedLines();
        judgedAtLast();
        Check.end("HeldEdgesTest");
    }

    // ---- of use to several ----

    private static RaisedQueue ofKeys(String law, int... keys) {
        return Check.told("heap a; heap b; heap c; shelf s plain; shelf t plain;" + law + Keys.plain('a', "a", keys));
    }

    private static void listIs(RaisedQueue x, int heap, int tree, int... items) {
        for (int i = 0; i < items.length; i++) {
            Check.same("LIST of heap " + heap + ", tree " + tree + " at " + i, x.listed(heap, tree, i), items[i]);
        }
        Check.same("LIST of heap " + heap + ", tree " + tree + ", its end", x.listed(heap, tree, items.length), NONE);
        Check.same("LIST of heap " + heap + ", tree " + tree + ", how long", x.tree(heap, tree, 2), items.length);
    }

    /** All that can be seen of HEAPS, TREES, LISTS, SHELVES, ITEMS. */
    private static String picture(RaisedQueue x) {
        StringBuilder text = new StringBuilder();
        for (int h = 0; h < x.count(0); h++) {
            text.append("heap ").append(x.heap(h, 0));
            int trees = x.heap(h, 1);
            for (int t = 0; t < trees; t++) {
                for (int what = 0; what <= 4; what++) {
                    text.append(' ').append(x.tree(h, t, what));
                }
                for (int i = 0; i < x.tree(h, t, 2); i++) {
                    text.append(" l").append(x.listed(h, t, i));
                }
            }
        }
        for (int i = 0; i < x.count(2); i++) {
            text.append(" i").append(x.item(i, 1)).append(x.item(i, 2)).append(x.item(i, 3)).append(x.depth(i));
        }
        return text.toString();
    }

    // ---- Promise 5 ----

    private static void itemOthers() {
        Check.heading(ITEM, "what 0: KIND [..] 4: 1 RAISED; -2: others.");
        RaisedQueue x = ofKeys("", 5, 6, 7);
        for (int what = 0; what <= 4; what++) {
            Check.same("the first one, what " + what, x.item(0, what) != -2, true);
            Check.same("the last one, what " + what, x.item(2, what) != -2, true);
            Check.same("one beyond it, what " + what, x.item(3, what), -2);
            for (int far : Keys.FAR_OUT) {
                Check.same("item " + far + ", what " + what, x.item(far, what), -2);
            }
        }
        Check.same("what 5", x.item(0, 5), -2);
        for (int far : Keys.FAR_OUT) {
            Check.same("what " + far, x.item(0, far), -2);
        }
        RaisedQueue full = ofKeys("", Keys.upTo(20));
        Check.same("the 20th", full.item(19, 0), 0);
        Check.same("the 21st", full.item(20, 0), -2);
    }

    private static void itemPlaces() {
        Check.heading(ITEM, "1: its HEAP (NONE: none), 2: its SHELF (NONE: none), 3: the place on it (NONE: none)");
        RaisedQueue x = ofKeys("grows 1;", 1, 2, 3);
        itemIs(x, 0, 0, NONE, NONE);
        x.take(0);
        itemIs(x, 0, NONE, NONE, NONE);
        x.shelve(0, 1);
        itemIs(x, 1, NONE, 1, 0);
        x.shelve(0, 1);
        itemIs(x, 2, NONE, 1, 1);
        x.put(1, 2);
        itemIs(x, 1, 2, NONE, NONE);
        x.meld(2, 1);
        itemIs(x, 1, 1, NONE, NONE);
        itemIs(x, 2, NONE, 1, 1);
    }

    private static void itemIs(RaisedQueue x, int item, int heap, int shelf, int place) {
        Check.same("HEAP of " + item, x.item(item, 1), heap);
        Check.same("SHELF of " + item, x.item(item, 2), shelf);
        Check.same("place of " + item, x.item(item, 3), place);
    }

    private static void itemRaised() {
        Check.heading(ITEM, "RAISED is an ITEM the KEY of which is less than the CKEY of the NODE in whose LIST it is.");
        RaisedQueue less = ofKeys("share 0;", 4, 5);
        Check.same("4 under 5", less.item(0, 4), 1);
        Check.same("5 under 5", less.item(1, 4), 0);
        RaisedQueue equal = ofKeys("share 0;", 5, 5);
        Check.same("5 under the other one's 5", equal.item(0, 4), 0);
        Check.same("5 under its own 5", equal.item(1, 4), 0);
        Check.same("by a hair: 998 over 99 under 999 over 99", Check.told("heap a; share 0; item i plain 998 over 99 in a;"
            + " item j plain 999 over 99 in a;").item(0, 4), 1);
        Check.same("equal QUOTIENTS", Check.told("heap a; share 0; item i plain 333 over 33 in a;"
            + " item j plain 999 over 99 in a;").item(0, 4), 0);
        less.take(0);
        Check.same("out of its HEAP", less.item(0, 4), 0);
        less.take(0);
        less.put(0, 0);
        Check.same("alone", less.item(0, 4), 0);
        RaisedQueue deep = ofKeys("grows (rank = 1) * 2;", 1, 2, 3, 4);
        Check.same("in the LIST of a ROOT", deep.item(0, 4), 1);
        Check.same("in the LIST of a NODE below", deep.depth(2), 1);
        Check.same("is RAISED, too", deep.item(2, 4), 1);
        Check.same("is not, under its own", deep.item(3, 4), 0);
    }

    // ---- Promise 6 ----

    private static void heapOthers() {
        Check.heading(HEAP, "what 0: [..] 3: the greatest RANK (NONE: no TREES); -2: others.");
        RaisedQueue x = ofKeys("share 0;", 1, 2, 3);
        int[] due = {3, 2, 1, 1};
        for (int what = 0; what <= 3; what++) {
            Check.same("what " + what, x.heap(0, what), due[what]);
            Check.same("of an empty HEAP, what " + what, x.heap(2, what), what == 3 ? NONE : 0);
            Check.same("of no HEAP, what " + what, x.heap(3, what), -2);
            for (int far : Keys.FAR_OUT) {
                Check.same("heap " + far + ", what " + what, x.heap(far, what), -2);
            }
        }
        Check.same("what 4", x.heap(0, 4), -2);
        Check.same("what 4 of an empty one", x.heap(2, 4), -2);
        for (int far : Keys.FAR_OUT) {
            Check.same("what " + far, x.heap(0, far), -2);
        }
        RaisedQueue one = Check.told("heap a;");
        Check.same("the only HEAP", one.heap(0, 0), 0);
        Check.same("where two less are told", one.heap(1, 0), -2);
        RaisedQueue emptied = ofKeys("", 1);
        Check.same("one ITEM: RANK", emptied.heap(0, 3), 0);
        Check.same("one ITEM: TREES", emptied.heap(0, 1), 1);
        emptied.take(0);
        Check.same("emptied: ITEMS", emptied.heap(0, 0), 0);
        Check.same("emptied: TREES", emptied.heap(0, 1), 0);
        Check.same("emptied: RANK", emptied.heap(0, 3), NONE);
        // half of 2: the ROOT of RANK 1 keeps its RANK with one ITEM
        RaisedQueue kept = ofKeys("grows 2;", 1, 2);
        kept.take(0);
        Check.same("one ITEM left of RANK 1", kept.heap(0, 3), 1);
    }

    // ---- Promises 7 and 8 ----

    private static void treeOthers() {
        Check.heading(TREE, "NONE: others, none such.");
        RaisedQueue x = ofKeys("", 1, 2, 3);
        for (int what = 0; what <= 4; what++) {
            Check.same("the first TREE, what " + what, x.tree(0, 0, what) != NONE, true);
            Check.same("the last TREE, what " + what, x.tree(0, 1, what) != NONE, true);
            Check.same("one beyond it, what " + what, x.tree(0, 2, what), NONE);
            Check.same("of an empty HEAP, what " + what, x.tree(1, 0, what), NONE);
            Check.same("of no HEAP, what " + what, x.tree(3, 0, what), NONE);
            for (int far : Keys.FAR_OUT) {
                Check.same("tree " + far + ", what " + what, x.tree(0, far, what), NONE);
                Check.same("heap " + far + ", what " + what, x.tree(far, 0, what), NONE);
            }
        }
        Check.same("what 5", x.tree(0, 0, 5), NONE);
        for (int far : Keys.FAR_OUT) {
            Check.same("what " + far, x.tree(0, 0, far), NONE);
        }
        RaisedQueue y = ofKeys("", 1);
        Check.same("one TREE", y.tree(0, 0, 0), 0);
        y.take(0);
        Check.same("it is gone", y.tree(0, 0, 0), NONE);
    }

    private static void treeValues() {
        Check.heading(TREE, "Of the i-th TREE (from 0, by RANKS) of a HEAP, of its ROOT, what 0: RANK");
        for (int many = 1; many <= 20; many++) {
            RaisedQueue x = ofKeys("", Keys.upTo(many));
            int tree = 0;
            for (int rank = 0; rank < 5; rank++) {
                if ((many >> rank & 1) == 1) {
                    Check.same("RANK of tree " + tree + " of " + many, x.tree(0, tree, 0), rank);
                    tree++;
                }
            }
            Check.same("TREES of " + many, x.heap(0, 1), tree);
            Check.same("no more of " + many, x.tree(0, tree, 0), NONE);
        }
        Check.heading(TREE, "1: TARGET, 2: how long the LIST is, 3: CKEY, by its bits, 4: how many NODES the TREE has");
        // PUT: a LEAF of RANK 0, TARGET 1, its KEY the CKEY, its LIST it alone
        RaisedQueue leaf = ofKeys("grows 7;", 5);
        int[] due = {0, 1, 1, Keys.bits(5), 1};
        for (int what = 0; what <= 4; what++) {
            Check.same("a LEAF, what " + what, leaf.tree(0, 0, what), due[what]);
        }
        RaisedQueue zero = ofKeys("", 0);
        Check.same("a CKEY of 0", zero.tree(0, 0, 3), 0);
        RaisedQueue twenty = ofKeys("grows 1;", Keys.upTo(16));
        Check.same("NODES of 16 that are alone", twenty.tree(0, 0, 4), 16);
        Check.same("NODES of 16 in one LIST", ofKeys("grows 99;", Keys.upTo(16)).tree(0, 0, 4), 1);
        Check.same("TARGET 99", ofKeys("grows 99;", Keys.upTo(16)).tree(0, 0, 1), 99);
    }

    private static void listedOthers() {
        Check.heading(LISTED, "The i-th ITEM (from 0) of the ROOT's LIST of a TREE; NONE: others, none such.");
        RaisedQueue x = ofKeys("grows 2;", 3, 2, 1);
        listIs(x, 0, 0, 2);
        listIs(x, 0, 1, 1, 0);
        Check.same("of a TREE that is not there", x.listed(0, 2, 0), NONE);
        Check.same("of an empty HEAP", x.listed(1, 0, 0), NONE);
        Check.same("of no HEAP", x.listed(3, 0, 0), NONE);
        for (int far : Keys.FAR_OUT) {
            Check.same("at " + far, x.listed(0, 1, far), NONE);
            Check.same("of tree " + far, x.listed(0, far, 0), NONE);
            Check.same("of heap " + far, x.listed(far, 0, 0), NONE);
        }
        RaisedQueue all = ofKeys("grows 99;", Keys.upTo(16));
        for (int i = 0; i < 16; i++) {
            Check.same("at " + i, all.listed(0, 0, i), i);
        }
        Check.same("at 16", all.listed(0, 0, 16), NONE);
        // of RANK 2 with LISTS of one: what is below the ROOT is not in its LIST
        listIs(ofKeys("grows 1;", 1, 2, 3, 4), 0, 0, 0);
    }

    // ---- Promise 9 ----

    private static void shelfOthers() {
        Check.heading(SHELF, "How many ITEMS stand on a SHELF; NONE: others.");
        RaisedQueue x = ofKeys("grows 1;", Keys.upTo(6));
        for (int many = 0; many <= 4; many++) {
            Check.same("how many, " + many, x.shelf(1), many);
            Check.same("the other one", x.shelf(0), 0);
            x.shelve(0, 1);
        }
        Check.same("never five", x.shelf(1), 4);
        Check.same("no third SHELF", x.shelf(2), NONE);
        for (int far : Keys.FAR_OUT) {
            Check.same("shelf " + far, x.shelf(far), NONE);
        }
        RaisedQueue one = Check.told("shelf s odd;");
        Check.same("the only one", one.shelf(0), 0);
        Check.same("where one less is told", one.shelf(1), NONE);
        Check.same("where none is told", Check.told("heap a;").shelf(0), NONE);
    }

    // ---- Promise 10 ----

    private static void putOthers() {
        Check.heading(PUT, "PUT: true; false: others, it can't be.");
        RaisedQueue x = ofKeys("", 1, 2, 3);
        Check.same("of one in this HEAP", x.put(0, 0), false);
        Check.same("of one in another HEAP", x.put(2, 1), false);
        Check.same("take", x.take(0), 0);
        String before = picture(x);
        Check.same("of the last ITEM and one", x.put(3, 0), false);
        Check.same("into the last HEAP and one", x.put(0, 3), false);
        for (int far : Keys.FAR_OUT) {
            Check.same("item " + far, x.put(far, 0), false);
            Check.same("heap " + far, x.put(0, far), false);
        }
        Check.same("nothing came of these", picture(x), before);
        Check.same("none of these can be undone", x.count(9), 1);
        Check.same("into the last HEAP", x.put(0, 2), true);
        Check.same("which can be undone", x.count(9), 2);
        Check.same("a second time", x.put(0, 2), false);
        Check.same("a second time elsewhere", x.put(0, 0), false);
    }

    private static void putFromAnywhere() {
        Check.heading(PUT, "PUT an ITEM that is in no HEAP into one: [..] (from a SHELF, from the FLOOR)");
        RaisedQueue x = ofKeys("grows 1;", 1, 2, 3);
        x.shelve(0, 0);
        x.take(0);
        Check.same("from the SHELF", x.put(0, 1), true);
        Check.same("it stands there no more", x.shelf(0), 0);
        Check.same("from the FLOOR", x.put(1, 1), true);
        Check.same("it lies there no more", x.count(4), 0);
        Check.same("both are in it", x.heap(1, 0), 2);
        Check.same("from a HEAP", x.put(2, 1), false);
        Check.same("it is there still", x.item(2, 1), 0);
    }

    private static void joinTakesItsPlace() {
        Check.heading(PUT, "JOIN a TREE to a HEAP: if it has none of its RANK it takes its place");
        RaisedQueue x = ofKeys("grows 1;", 9, 8, 7, 6, 5, 4, 3);
        Check.same("RANKS 0, 1, 2", x.heap(0, 1), 3);
        listIs(x, 0, 0, 6);
        listIs(x, 0, 1, 5);
        listIs(x, 0, 2, 3);
        x.take(0);
        Check.same("without RANK 0", x.tree(0, 0, 0), 1);
        x.put(6, 0);
        Check.same("its place is taken", x.tree(0, 0, 0), 0);
        Check.same("none of the others is JOINED", x.heap(0, 1), 3);
        Check.heading(PUT, "else these two are the CHILDREN [..]; that is JOINED");
        x.take(0);
        x.put(6, 0);
        Check.same("7 ITEMS of RANKS 0, 1, 2", x.heap(0, 1), 3);
        RaisedQueue y = ofKeys("grows 1;", 9, 8, 7, 6, 5, 4, 3, 2);
        Check.same("the 8th JOINS them all", y.heap(0, 1), 1);
        Check.same("of 1 RANK more each", y.tree(0, 0, 0), 3);
        Check.same("the ITEM with the least KEY is up", y.depth(7), 0);
    }

    private static void joinMakesARoot() {
        Check.heading(PUT, "the HEAP's the first one, of a new ROOT");
        // of equal CKEYS the first CHILD stays first
        listIs(ofKeys("share 0;", 5, 5), 0, 0, 0, 1);
        RaisedQueue x = ofKeys("share 0;", 5, 5);
        x.take(0);
        x.take(0);
        x.put(1, 1);
        x.put(0, 1);
        listIs(x, 1, 0, 1, 0);

        Check.heading(PUT, "its LIST empty, its TARGET the E of grows (1 to 99), SIFTED at once");
        RaisedQueue one = ofKeys("grows 1;", 5, 4);
        listIs(one, 0, 0, 1);
        Check.same("the other one is below", one.depth(0), 1);
        Check.same("CKEY", one.tree(0, 0, 3), Keys.bits(4));
        RaisedQueue two = ofKeys("grows 2;", 5, 4);
        listIs(two, 0, 0, 1, 0);
        Check.same("none is below", two.depth(0), 0);
        Check.same("CKEY", two.tree(0, 0, 3), Keys.bits(5));
    }

    private static void siftAsLongAs() {
        Check.heading(PUT, "SIFT a NODE: as long as its LIST has fewer than TARGET");
        for (int target = 1; target <= 8; target++) {
            RaisedQueue x = ofKeys("grows (rank = 3) * " + target + ";", Keys.upTo(8));
            Check.same("TARGET " + target, x.tree(0, 0, 1), target);
            Check.same("LIST by TARGET " + target, x.tree(0, 0, 2), target);
            Check.same("CKEY by TARGET " + target, x.tree(0, 0, 3), Keys.bits(target));
            Check.same("NODES by TARGET " + target, x.tree(0, 0, 4), 1 + 8 - target);
            Check.same("RAISED by TARGET " + target, x.heap(0, 2), target - 1);
        }
        Check.heading(PUT, "and it is no LEAF");
        RaisedQueue leaf = ofKeys("grows (rank = 3) * 9;", Keys.upTo(8));
        Check.same("TARGET", leaf.tree(0, 0, 1), 9);
        Check.same("LIST", leaf.tree(0, 0, 2), 8);
        Check.same("NODES", leaf.tree(0, 0, 4), 1);

        Check.heading(PUT, "the first one's LIST comes behind its own");
        // LISTS of two each: a TARGET of 3 ends with 4
        RaisedQueue x = ofKeys("grows (rank = 1) * 2 + (rank = 2) * 3;", 7, 8, 5, 6);
        listIs(x, 0, 0, 2, 3, 0, 1);
        Check.same("more than TARGET", x.tree(0, 0, 1), 3);
        Check.same("its CKEY is that one's", x.tree(0, 0, 3), Keys.bits(8));
        // a TARGET of 2 is met by the first LIST
        RaisedQueue y = ofKeys("grows 2;", 7, 8, 5, 6);
        listIs(y, 0, 0, 2, 3);
        Check.same("its CKEY is that one's", y.tree(0, 0, 3), Keys.bits(6));
    }

    private static void siftChildren() {
        Check.heading(PUT, "or has both and the second one's CKEY is less, these change");
        listIs(ofKeys("share 0;", 5, 4), 0, 0, 1, 0);
        listIs(ofKeys("share 0;", 4, 5), 0, 0, 0, 1);
        listIs(ofKeys("share 0;", 5, 5), 0, 0, 0, 1);
        // 5, 6 under CKEY 6 and 6, 6 under CKEY 6: equal, though the least KEY is not
        listIs(ofKeys("grows 2 * rank;", 6, 6, 5, 6), 0, 0, 0, 1, 2, 3);

        Check.heading(PUT, "if it has no first CHILD [..] these change");
        RaisedQueue x = ofKeys("grows 1;", 4, 5);
        Check.same("take", x.take(0), 0);
        listIs(x, 0, 0, 1);
        Check.same("NODES", x.tree(0, 0, 4), 1);
        Check.same("CKEY", x.tree(0, 0, 3), Keys.bits(5));
        // an empty place for the first CHILD, a KEY of 0 in the second one
        RaisedQueue zero = ofKeys("grows 1;", 0, 0);
        Check.same("take", zero.take(0), 0);
        listIs(zero, 0, 0, 1);

        Check.heading(PUT, "that CHILD's LIST is empty: it is gone, if it is a LEAF, else it is SIFTED");
        RaisedQueue y = ofKeys("grows 1;", 1, 2, 3, 4);
        // 1 came up twice: its LEAF is gone, the NODE of RANK 1 has 2 now
        Check.same("NODES", y.tree(0, 0, 4), 4);
        Check.same("1", y.depth(0), 0);
        Check.same("2", y.depth(1), 1);
        Check.same("3", y.depth(2), 1);
        Check.same("4", y.depth(3), 2);
        Check.same("take", y.take(0), 0);
        Check.same("2 comes up, its NODE is gone", y.tree(0, 0, 4), 3);
        Check.same("2", y.depth(1), 0);
        Check.same("take", y.take(0), 1);
        Check.same("3 comes up, its NODE has 4", y.tree(0, 0, 4), 2);
        Check.same("4", y.depth(3), 1);
    }

    // ---- Promise 11 ----

    private static void takeOthers() {
        Check.heading(TAKE, "TAKE: the ITEM; NONE: others, it can't be.");
        RaisedQueue x = ofKeys("", 1);
        Check.same("of an empty one", x.take(2), NONE);
        Check.same("of none", x.take(3), NONE);
        for (int far : Keys.FAR_OUT) {
            Check.same("heap " + far, x.take(far), NONE);
        }
        Check.same("none of these can be undone", x.count(9), 0);
        Check.same("of one ITEM", x.take(0), 0);
        Check.same("it lies on the FLOOR", x.count(4), 1);
        Check.same("a second time", x.take(0), NONE);
        Check.same("one can be undone", x.count(9), 1);
    }

    private static void takeLeastRoot() {
        Check.heading(TAKE, "of the ROOTS the one with the least CKEY, of equal ones the one of the least RANK");
        Check.same("the least CKEY, of the least RANK", ofKeys("grows 1;", 5, 6, 4).take(0), 2);
        Check.same("equal CKEYS", ofKeys("grows 1;", 5, 6, 5).take(0), 2);
        Check.same("the least CKEY, of the greatest RANK", ofKeys("grows 1;", 5, 6, 6).take(0), 0);
        RaisedQueue x = ofKeys("grows 1;", 5, 5, 5, 5, 5, 5, 5);
        Check.same("equal CKEYS of RANKS 0, 1, 2: 0", x.take(0), 6);
        Check.same("equal CKEYS of RANKS 1, 2: 1", x.take(0), 4);
        Check.same("1 again", x.take(0), 5);
        Check.same("then 2", x.take(0), 0);

        Check.heading(TAKE, "the first of its LIST is out, on the FLOOR");
        // LIST 4, 9 under CKEY 9; alone 8: that is less
        RaisedQueue raised = ofKeys("grows 2;", 9, 4, 8);
        Check.same("8 comes ahead of 4 under 9", raised.take(0), 2);
        Check.same("4 comes, under 9", raised.take(0), 1);
        Check.same("9 comes", raised.take(0), 0);
        Check.same("all on the FLOOR", raised.count(4), 3);
    }

    private static void takeHalfOfTarget() {
        Check.heading(TAKE, "if the LIST has half of TARGET (cut) or fewer then: it is SIFTED, if it is no LEAF");
        // how long the LIST is behind each of three TAKES, by TARGETS 1 to 6; of 16 ITEMS none is wanting
        int[][] due = {{1, 1, 1}, {2, 2, 2}, {2, 3, 2}, {3, 4, 3}, {4, 3, 5}, {5, 4, 6}};
        for (int target = 1; target <= 6; target++) {
            RaisedQueue x = ofKeys("grows (rank = 4) * " + target + ";", Keys.upTo(16));
            Check.same("LIST of TARGET " + target, x.tree(0, 0, 2), target);
            for (int i = 0; i < 3; i++) {
                Check.same("take by TARGET " + target, x.take(0), i);
                Check.same("LIST of TARGET " + target + " behind " + (i + 1), x.tree(0, 0, 2), due[target - 1][i]);
            }
        }
        RaisedQueue x = ofKeys("grows (rank = 3) * 4;", Keys.upTo(8));
        Check.same("CKEY", x.tree(0, 0, 3), Keys.bits(4));
        x.take(0);
        Check.same("3 of 4 are left: not SIFTED", x.tree(0, 0, 3), Keys.bits(4));
        x.take(0);
        Check.same("2 of 4 are left: SIFTED", x.tree(0, 0, 3), Keys.bits(6));
    }

    private static void takeLastOfAList() {
        Check.heading(TAKE, "else, if its LIST is empty, the TREE is gone");
        RaisedQueue x = ofKeys("grows 9;", 1, 2);
        listIs(x, 0, 0, 0, 1);
        Check.same("take", x.take(0), 0);
        Check.same("a LEAF with one of 9 stays", x.heap(0, 1), 1);
        listIs(x, 0, 0, 1);
        Check.same("take", x.take(0), 1);
        Check.same("a LEAF with none is gone", x.heap(0, 1), 0);
        RaisedQueue y = ofKeys("grows 1;", 1, 2, 3);
        Check.same("take", y.take(0), 0);
        Check.same("no LEAF: it stays", y.heap(0, 1), 2);
        Check.same("take", y.take(0), 1);
        Check.same("now it is a LEAF: it is gone", y.heap(0, 1), 1);
        Check.same("RANK 0 is there", y.tree(0, 0, 0), 0);
        RaisedQueue again = ofKeys("", 7);
        for (int i = 0; i < 100; i++) {
            Check.same("take, time " + i, again.take(0), 0);
            Check.same("put, time " + i, again.put(0, 0), true);
        }
        listIs(again, 0, 0, 0);
    }

    // ---- Promise 12 ----

    private static void meldOthers() {
        Check.heading(MELD, "MELD a HEAP into another one: true; false: others, the same.");
        RaisedQueue x = ofKeys("", 1, 2, 3);
        String before = picture(x);
        for (int heap = 0; heap < 3; heap++) {
            Check.same("into itself " + heap, x.meld(heap, heap), false);
        }
        Check.same("of none", x.meld(3, 0), false);
        Check.same("into none", x.meld(0, 3), false);
        for (int far : Keys.FAR_OUT) {
            Check.same("of " + far, x.meld(far, 0), false);
            Check.same("into " + far, x.meld(0, far), false);
            Check.same("of and into " + far, x.meld(far, far), false);
        }
        Check.same("nothing came of these", picture(x), before);
        Check.same("none of these can be undone", x.count(9), 0);
        Check.same("into the last one", x.meld(0, 2), true);
        Check.same("it is empty then", x.heap(0, 0), 0);
        Check.same("no TREE is in it", x.heap(0, 1), 0);
        Check.same("all are there", x.heap(2, 0), 3);
        Check.same("of an empty one", x.meld(0, 2), true);
        Check.same("all are there still", x.heap(2, 0), 3);
        Check.same("of an empty one into an empty one", x.meld(0, 1), true);
        Check.same("each can be undone", x.count(9), 3);
    }

    private static void meldByRanks() {
        Check.heading(MELD, "its TREES, by RANKS, are JOINED to the other one");
        // d of RANK 0 is JOINED to a; that, the HEAP's, is the first CHILD, then comes b, c of RANK 1
        RaisedQueue x = Check.told("heap a; heap b; share 0;" + Keys.plain('a', "a", 5) + Keys.plain('b', "b", 5, 5, 5));
        Check.same("meld", x.meld(1, 0), true);
        Check.same("one TREE", x.heap(0, 1), 1);
        listIs(x, 0, 0, 0, 3, 1, 2);
        RaisedQueue y = Check.told("heap a; heap b; grows 1;" + Keys.plain('a', "a", Keys.upTo(5)) + Keys.plain('f', "b", Keys.upTo(3)));
        Check.same("RANKS 0, 2 and 0, 1", y.meld(1, 0), true);
        Check.same("are RANK 3", y.tree(0, 0, 0), 3);
        Check.same("alone", y.heap(0, 1), 1);
        Check.same("of equal CKEYS the HEAP's is ahead", y.listed(0, 0, 0), 0);
        RaisedQueue z = Check.told("heap a; heap b; grows 1;" + Keys.plain('a', "a", Keys.upTo(4)) + Keys.plain('f', "b", Keys.upTo(3)));
        Check.same("RANKS 2 and 0, 1", z.meld(1, 0), true);
        Check.same("take their places", z.heap(0, 1), 3);
    }

    // ---- Promise 13 ----

    private static void shelveOthers() {
        Check.heading(SHELVE, "SHELVE: 1 on the SHELF, 0 on the FLOOR; NONE: others, it can't be.");
        RaisedQueue x = Check.told("heap a; heap b; shelf s plain; shelf t odd;" + Keys.plain('a', "a", 1, 2));
        Check.same("of an empty one", x.shelve(1, 0), NONE);
        Check.same("of none", x.shelve(2, 0), NONE);
        Check.same("on none", x.shelve(0, 2), NONE);
        for (int far : Keys.FAR_OUT) {
            Check.same("of " + far, x.shelve(far, 0), NONE);
            Check.same("on " + far, x.shelve(0, far), NONE);
        }
        Check.same("nothing came of these", x.heap(0, 0), 2);
        Check.same("none of these can be undone", x.count(9), 0);
        Check.same("of its KIND", x.shelve(0, 0), 1);
        Check.same("of another KIND", x.shelve(0, 1), 0);
        Check.same("of the emptied one", x.shelve(0, 0), NONE);
        Check.same("two can be undone", x.count(9), 2);
        Check.same("one on the FLOOR", x.count(4), 1);
        Check.same("no SHELF is told", Check.told("heap a;" + Keys.plain('a', "a", 1)).shelve(0, 0), NONE);

        Check.heading(SHELVE, "if its KIND is the SHELF's");
        String[] kinds = {"plain", "urgent", "late", "odd"};
        for (String kind : kinds) {
            for (String other : kinds) {
                RaisedQueue y = Check.told("heap a; shelf s " + kind + "; item i " + other + " 1 over 1 in a;");
                Check.same(other + " on " + kind, y.shelve(0, 0), kind.equals(other) ? 1 : 0);
                Check.same("on the FLOOR: " + other + " on " + kind, y.count(4), kind.equals(other) ? 0 : 1);
                Check.same("on the SHELF: " + other + " on " + kind, y.shelf(0), kind.equals(other) ? 1 : 0);
            }
        }
    }

    private static void shelvePlaces() {
        Check.heading(SHELVE, "what came out is on the first free place (of 4) of a SHELF, if [..] one is free; else it stays"
            + " on the FLOOR");
        RaisedQueue x = ofKeys("grows 1;", Keys.upTo(6));
        for (int i = 0; i < 4; i++) {
            Check.same("the " + i + "th", x.shelve(0, 0), 1);
            Check.same("its place", x.item(i, 3), i);
        }
        Check.same("the fifth", x.shelve(0, 0), 0);
        Check.same("on the FLOOR", x.count(4), 1);
        Check.same("no place", x.item(4, 3), NONE);
        Check.same("no SHELF", x.item(4, 2), NONE);
        Check.same("no HEAP", x.item(4, 1), NONE);
        Check.same("the other SHELF of that KIND has places", x.shelve(0, 1), 1);
        Check.same("its first one", x.item(5, 3), 0);

        Check.heading(SHELVE, "by PUT a place on a SHELF is free again");
        Check.same("put", x.put(2, 1), true);
        Check.same("shelve", x.shelve(1, 0), 1);
        Check.same("place 2 alone is free", x.item(2, 3), 2);
        x.put(3, 1);
        x.put(1, 1);
        Check.same("shelve", x.shelve(1, 0), 1);
        Check.same("of 1 and 3 the first", x.item(1, 3), 1);
        Check.same("shelve", x.shelve(1, 0), 1);
        Check.same("then 3", x.item(3, 3), 3);
        x.put(0, 1);
        x.put(4, 1);
        Check.same("shelve", x.shelve(1, 0), 1);
        Check.same("place 0", x.item(0, 3), 0);
        Check.same("shelve on a full one", x.shelve(1, 0), 0);
        Check.same("the others stay where they are", x.item(3, 3), 3);
        Check.same("the other SHELF, too", x.item(5, 2), 1);
        x.put(5, 1);
        Check.same("a place of the other SHELF frees none of this one", x.shelve(1, 0), 0);
    }

    // ---- Promise 14 ----

    private static void undoLastEight() {
        Check.heading(UNDO, "UNDO: all of these, the last 8, one by one. false: nothing can be.");
        RaisedQueue x = ofKeys("grows 1;", Keys.upTo(12));
        Check.same("at first nothing", x.undo(), false);
        for (int i = 0; i < 8; i++) {
            Check.same("can be undone", x.count(9), i);
            Check.same("take", x.take(0), i);
        }
        Check.same("8", x.count(9), 8);
        for (int i = 7; i >= 0; i--) {
            Check.same("undo", x.undo(), true);
            Check.same("is back", x.first(0), i);
        }
        Check.same("no ninth of eight", x.undo(), false);
        Check.same("nothing came of it", x.heap(0, 0), 12);
        for (int i = 0; i < 9; i++) {
            x.take(0);
        }
        Check.same("8 of nine", x.count(9), 8);
        for (int i = 0; i < 8; i++) {
            Check.same("undo", x.undo(), true);
        }
        Check.same("the first of nine is not undone", x.first(0), 1);
        Check.same("no ninth of nine", x.undo(), false);
        x.take(0);
        Check.same("one more", x.count(9), 1);
        Check.same("undo", x.undo(), true);
        Check.same("what was undone can't be undone", x.undo(), false);
    }

    private static void undoEachWork() {
        Check.heading(UNDO, "UNDO: all of these (PUT, MELD, TAKE, SHELVE)");
        for (int work = 0; work < 7; work++) {
            // 6 alone under 3, then 4 and 5 in one LIST under 6, then 3, 2, 1, 0 in one LIST under 9
            RaisedQueue x = ofKeys("share 0;", 9, 2, 7, 4, 5, 6, 3);
            x.shelve(0, 0);
            x.shelve(0, 0);
            x.shelve(0, 1);
            Check.same("3 lies on the FLOOR", x.take(0), 3);
            String before = picture(x);
            Check.same("work " + work + " can be", worked(x, work), true);
            Check.same("undo of work " + work, x.undo(), true);
            Check.same("all is as it was ahead of work " + work, picture(x), before);
            Check.same("what can be undone is as ahead", x.count(9), 4);
        }
        // NODES below others: what stands above each is back, too
        RaisedQueue deep = Check.told("heap a; heap b; grows 1;" + Keys.plain('a', "a", 4, 3, 2, 1) + Keys.plain('e', "b", 8, 7, 6, 5));
        String before = picture(deep);
        deep.meld(0, 1);
        Check.same("three NODES above one", deep.depth(4), 3);
        deep.take(1);
        deep.take(1);
        for (int i = 0; i < 3; i++) {
            Check.same("undo", deep.undo(), true);
        }
        Check.same("all is as it was", picture(deep), before);
        Check.same("MELD again", deep.meld(1, 0), true);
        Check.same("all of them", deep.heap(0, 0), 8);
        Check.same("all in one TREE", deep.tree(0, 0, 4), 8);
        RaisedQueue x = ofKeys("grows 1;", 1, 2);
        x.take(0);
        x.take(1);
        x.put(1, 0);
        x.meld(0, 0);
        x.shelve(0, 2);
        x.undo();
        Check.same("what could not be is none of these", x.heap(0, 0), 2);
    }

    private static boolean worked(RaisedQueue x, int work) {
        switch (work) {
            case 0: return x.put(3, 1);
            case 1: return x.put(4, 0);
            case 2: return x.take(0) != NONE;
            case 3: return x.meld(0, 1);
            case 4: return x.meld(1, 2);
            case 5: return x.shelve(0, 0) == 1;
            default: return x.shelve(0, 1) == 1;
        }
    }

    // ---- Promise 15 ----

    private static RaisedQueue judgedOf(String work) {
        RaisedQueue x = Check.told("heap a; heap b; shelf s plain; shelf t odd; share 0;" + Keys.plain('a', "a", 4, 3, 2));
        Check.same("work() of " + work, Check.work(x, work), 0);
        return x;
    }

    private static void judgedLines() {
        Check.heading(JUDGED, "the first line (from 0) that can't be; what 0: a line (NONE: none)");
        Check.same("no line", judgedOf("").judged(0), NONE);
        Check.same("all can be", judgedOf("take a; take a; take a;").judged(0), NONE);
        Check.same("the first one", judgedOf("take b; take a;").judged(0), 0);
        Check.same("the fourth one", judgedOf("take a; take a; take a; take a; take b;").judged(0), 3);
        Check.same("the 30th", judgedOf("meld a b; meld b a;".repeat(14) + "meld a b; take a;").judged(0), 29);
        Check.same("none of 30", judgedOf("meld a b; meld b a;".repeat(15)).judged(0), NONE);

        Check.heading(JUDGED, "(put of one in a HEAP, take, shelve of an empty one; those are left out)");
        Check.same("put of one in this HEAP", judgedOf("put xa a;").judged(0), 0);
        Check.same("put of one in another HEAP", judgedOf("put xa b;").judged(0), 0);
        Check.same("put of one on the FLOOR", judgedOf("take a; take a; put xb a;").judged(0), NONE);
        Check.same("put of one on a SHELF", judgedOf("shelve a s; put xc b;").judged(0), NONE);
        Check.same("put a second time", judgedOf("shelve a s; put xc b; put xc b;").judged(0), 2);
        Check.same("take of an empty one", judgedOf("take b;").judged(0), 0);
        Check.same("take of the last one", judgedOf("take a; take a; take a;").judged(0), NONE);
        Check.same("shelve of an empty one", judgedOf("shelve b s;").judged(0), 0);
        Check.same("shelve on another KIND's", judgedOf("shelve a t;").judged(0), NONE);
        Check.same("meld of an empty one", judgedOf("meld b a; meld b a;").judged(0), NONE);
        RaisedQueue x = judgedOf("take b; put xa b; shelve b s; take a; take b; take a;");
        Check.same("left out: the first one", x.judged(0), 0);
        Check.same("left out: what lies on the FLOOR", x.judged(1), 2);

        Check.heading(JUDGED, "JUDGED, what 0: a line, 1, 2: how many; -2: others.");
        Check.same("what 2 is one", x.judged(2) >= 0, true);
        Check.same("what 3", x.judged(3), -2);
        for (int far : Keys.FAR_OUT) {
            Check.same("what " + far, x.judged(far), -2);
        }
        Check.same("not even without a WORK", judgedOf("").judged(3), -2);
    }

    private static void judgedAtLast() {
        Check.heading(JUDGED, "how many ITEMS lie on the FLOOR at last");
        Check.same("no line", judgedOf("").judged(1), 0);
        Check.same("all of them", judgedOf("take a; take a; take a;").judged(1), 3);
        Check.same("none that stands on a SHELF", judgedOf("take a; shelve a s; shelve a t;").judged(1), 2);
        Check.same("put again", judgedOf("take a; put xc b;").judged(1), 0);
        Check.same("of five of the SHELF's KIND one", judgedFive("shelve a s;".repeat(5)).judged(1), 1);
        Check.same("of four none", judgedFive("shelve a s;".repeat(4)).judged(1), 0);

        Check.heading(JUDGED, "how many are RAISED at last");
        // as told: 4 and 3 in one LIST under 4, 2 alone
        Check.same("as told", judgedOf("").judged(2), 1);
        Check.same("2 is out", judgedOf("take a;").judged(2), 1);
        Check.same("3 is out, too", judgedOf("take a; take a;").judged(2), 0);
        Check.same("2 and 3 in the other one", judgedOf("take a; take a; put xc b; put xb b;").judged(2), 1);

        Check.heading(JUDGED, "the WORK from the QUEUE as told");
        RaisedQueue x = judgedOf("take a; take a; take a; take a;");
        for (int i = 0; i < 4; i++) {
            Check.same("the line", x.judged(0), 3);
            Check.same("the FLOOR", x.judged(1), 3);
            x.take(0);
        }
        Check.same("what was TAKEN stays so", x.heap(0, 0), 0);
        Check.same("JUDGED can't be undone", x.count(9), 3);
    }

    private static RaisedQueue judgedFive(String work) {
        RaisedQueue x = ofKeys("", Keys.upTo(5));
        Check.same("work() of " + work, Check.work(x, work), 0);
        return x;
    }
}
