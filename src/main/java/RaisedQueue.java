import java.util.NoSuchElementException;

/**
 * Priority queues that may raise a told share of their keys (soft heaps): told in a language, worked by
 * hand or by told works, and asked about without being changed.
 */
public final class RaisedQueue {
    public static final int NONE = -1;

    private static final int OTHERS = -2;
    private static final int MOST_HEAPS = 3;
    private static final int MOST_SHELVES = 2;
    private static final int MOST_ITEMS = 20;
    private static final int MOST_LINES = 30;
    private static final int MOST_SEEN = 8;
    private static final int MOST_UNDONE = 8;
    private static final int MARKS = 2;
    private static final int KINDS = 4;
    private static final int PLACES_SEEN = 10;

    private final Tape tape = new Tape();
    private final Plan plan = new Plan();
    private final Plan draft = new Plan();
    private final Work lines = new Work();
    private final Work draftLines = new Work();
    private final Reader reader = new Reader(tape);
    private final Forest now = new Forest(plan);
    private final Trial trial = new Trial(plan);

    private final Row seen = new Row(MOST_SEEN);
    private int seenSize = 0;
    private int shut = 0;

    private final Forest[] past = new Forest[MOST_UNDONE];
    private int newest = 0;
    private int undoable = 0;

    private final Forest[] marked = new Forest[MARKS];
    private final Row markedSeen = new Row(MARKS * MOST_SEEN);
    private final Row markedSize = new Row(MARKS); // NONE: nothing is on this MARK

    /** Nothing is told. */
    public RaisedQueue() {
        for (int i = 0; i < past.length; i++) {
            past[i] = new Forest(plan);
        }
        for (int i = 0; i < marked.length; i++) {
            marked[i] = new Forest(plan);
        }
    }

    // ---- what is told ----

    /** Up to 24 signs come behind the TAPE; answers how many there are. */
    public int feed(long a, long b, long c) {
        tape.addBytes(a);
        tape.addBytes(b);
        tape.addBytes(c);
        return tape.size;
    }

    /** The TAPE is read as a QUEUE: 0, or its FAULT. */
    public int queue() {
        int fault = reader.readQueue(draft);
        tape.size = 0;
        if (fault == 0) {
            plan.copyFrom(draft);
            now.tell();
            lines.size = 0;
            seenSize = 0;
            undoable = 0;
            shut = 0;
            markedSize.fill(NONE);
        }
        return fault;
    }

    /** The TAPE is read as a WORK: 0, or its FAULT. */
    public int work() {
        int fault = reader.readWork(plan, draftLines);
        tape.size = 0;
        if (fault == 0) {
            lines.copyFrom(draftLines);
        }
        return fault;
    }

    // ---- how all stands ----

    /** Of an ITEM its KIND, HEAP, SHELF, place, whether it is RAISED. */
    public int item(int item, int what) {
        if (!isItem(item)) {
            return OTHERS;
        }
        switch (what) {
            case 0:
                return plan.kinds.at(item);
            case 1:
                return now.heaps.at(item);
            case 2:
                return now.shelves.at(item);
            case 3:
                return now.places.at(item);
            case 4:
                return now.isRaised(item) ? 1 : 0;
            default:
                return OTHERS;
        }
    }

    /** Of a HEAP how many ITEMS, TREES, RAISED, and the greatest RANK. */
    public int heap(int heap, int what) {
        if (!isHeap(heap)) {
            return OTHERS;
        }
        switch (what) {
            case 0:
                return now.itemsIn(heap);
            case 1:
                return now.treesIn(heap);
            case 2:
                return now.raisedIn(heap);
            case 3:
                return now.greatestRank(heap);
            default:
                return OTHERS;
        }
    }

    /** Of a TREE's ROOT the RANK, TARGET, length of the LIST, CKEY by its bits, and how many NODES. */
    public int tree(int heap, int i, int what) {
        int root = isHeap(heap) ? now.treeAt(heap, i) : NONE;
        if (root == NONE) {
            return NONE;
        }
        switch (what) {
            case 0:
                return now.ranks.at(root);
            case 1:
                return now.targets.at(root);
            case 2:
                return now.sizes.at(root);
            case 3:
                return bitsOf(plan.keyOf(now.leads.at(root)));
            case 4:
                return now.nodesUnder(root);
            default:
                return NONE;
        }
    }

    /** The i-th ITEM of the LIST of a TREE's ROOT. */
    public int listed(int heap, int tree, int i) {
        int root = isHeap(heap) ? now.treeAt(heap, tree) : NONE;
        return root == NONE ? NONE : now.listedAt(root, i);
    }

    /** How many ITEMS stand on a SHELF. */
    public int shelf(int shelf) {
        return isShelf(shelf) ? now.itemsOn(shelf) : NONE;
    }

    // ---- works by hand ----

    /** PUT, if it can be. */
    public boolean put(int item, int heap) {
        if (!isItem(item) || !isHeap(heap) || now.heaps.at(item) != NONE) {
            return false;
        }
        remember();
        return now.putIn(item, heap);
    }

    /** TAKE: the ITEM that came out. */
    public int take(int heap) {
        if (!isHeap(heap) || now.itemsIn(heap) == 0) {
            return NONE;
        }
        remember();
        return now.takeFrom(heap);
    }

    /** MELD a HEAP into another one. */
    public boolean meld(int heap, int into) {
        if (!isHeap(heap) || !isHeap(into) || heap == into) {
            return false;
        }
        remember();
        return now.meldInto(heap, into);
    }

    /** SHELVE: 1 on the SHELF, 0 on the FLOOR. */
    public int shelve(int heap, int shelf) {
        if (!isHeap(heap) || !isShelf(shelf) || now.itemsIn(heap) == 0) {
            return NONE;
        }
        remember();
        return now.shelveFrom(heap, shelf);
    }

    /** UNDO the last work by hand that is left. */
    public boolean undo() {
        if (undoable == 0) {
            return false;
        }
        now.copyFrom(forestAt(past, newest));
        newest = (newest + MOST_UNDONE - 1) % MOST_UNDONE;
        undoable--;
        return true;
    }

    /** JUDGED is the WORK from the QUEUE as told. */
    public int judged(int what) {
        if (what < 0 || what > 2) {
            return OTHERS;
        }
        int line = trial.judge(lines);
        if (what == 0) {
            return line;
        }
        return what == 1 ? trial.forest.itemsOnFloor() : trial.forest.raisedInAll();
    }

    // ---- questions that are SHUT behind themselves ----

    /** NEXT of a HEAP. */
    public int first(int heap) {
        if (!shutHeap(heap)) {
            return NONE;
        }
        trial.takeAll(now, heap);
        return trial.order.at(0);
    }

    /** COMES of a HEAP, i. */
    public int comes(int heap, int i) throws NoSuchElementException {
        if (shutHeap(heap)) {
            trial.takeAll(now, heap);
            if (i >= 0 && i < trial.size) {
                return trial.order.at(i);
            }
        }
        throw new NoSuchElementException("no such place in a heap");
    }

    /** AWAY of a HEAP and an ITEM in it. */
    public int away(int heap, int item) throws NoSuchElementException {
        if (shutHeap(heap) && isItem(item) && now.heaps.at(item) == heap) {
            trial.takeAll(now, heap);
            return trial.awayOf(item);
        }
        throw new NoSuchElementException("no such item in a heap");
    }

    /** WRONG of a HEAP. */
    public int wrongs(int heap) {
        if (!shutHeap(heap)) {
            return NONE;
        }
        trial.takeAll(now, heap);
        return trial.wrongPairs();
    }

    /** FAR of a HEAP. */
    public int far(int heap) {
        if (!shutHeap(heap)) {
            return NONE;
        }
        trial.takeAll(now, heap);
        return trial.farthest();
    }

    /** SELECT of a HEAP, i. */
    public int select(int heap, int i) {
        return isHeap(heap) ? now.selected(heap, i) : NONE;
    }

    /** SPLIT of a HEAP: the ITEM, or how many stand ahead of it. */
    public int split(int heap, int what) {
        if (!shutHeap(heap) || what < 0 || what > 1) {
            return NONE;
        }
        int item = trial.splitOf(now, heap);
        if (item == NONE) {
            return NONE;
        }
        return what == 0 ? item : now.aheadOf(heap, item);
    }

    /** STEPS of a HEAP, i. */
    public int steps(int heap, int i) {
        return shutHeap(heap) ? trial.stepsTo(now, heap, i) : NONE;
    }

    /** WORTH of a HEAP, by its bits. */
    public int worth(int heap) {
        if (!shutHeap(heap)) {
            return NONE;
        }
        trial.takeAll(now, heap);
        return bitsOf(trial.sum());
    }

    /** MEAN of a HEAP, by its bits. */
    public int mean(int heap) {
        if (!shutHeap(heap)) {
            return NONE;
        }
        trial.takeAll(now, heap);
        return trial.size == 0 ? 0 : bitsOf(trial.sum() / (float) trial.size);
    }

    // ---- keys ----

    /** BITS of an ITEM. */
    public int bits(int item) {
        return isItem(item) ? bitsOf(plan.keyOf(item)) : NONE;
    }

    /** CUT of an ITEM. */
    public int thousand(int item) {
        return isItem(item) ? (int) (plan.keyOf(item) * 1000f) : NONE;
    }

    /** LIFT of an ITEM in a HEAP, by its bits. */
    public int lift(int item) {
        int node = isItem(item) ? now.nodes.at(item) : NONE;
        return node == NONE ? NONE : bitsOf(plan.keyOf(now.leads.at(node)) - plan.keyOf(item));
    }

    /** BOUND of a HEAP. */
    public boolean bound(int heap) {
        return isHeap(heap) && now.raisedIn(heap) <= now.itemsIn(heap) >> plan.share;
    }

    /** DEPTH of an ITEM in a HEAP. */
    public int depth(int item) {
        int node = isItem(item) ? now.nodes.at(item) : NONE;
        return node == NONE ? NONE : now.depthOf(node);
    }

    // ---- which heap it was ----

    /** SEEN: that the i-th ITEM is, or is not, of a KIND. */
    public boolean see(int i, int kind, boolean is) {
        if (i < 0 || i >= PLACES_SEEN || kind < 0 || kind >= KINDS || seenSize >= MOST_SEEN) {
            return false;
        }
        seen.set(seenSize, (i * KINDS + kind) * 2 + (is ? 1 : 0));
        seenSize++;
        return true;
    }

    /** WHO, as bits. */
    public int who() {
        shut++;
        trial.foresee(now);
        return trial.fitting(seen, seenSize);
    }

    /** ASK, as 4 * i + the KIND. */
    public int ask() {
        shut++;
        trial.foresee(now);
        return trial.bestQuestion(trial.fitting(seen, seenSize));
    }

    /** DAYS by a SEED. */
    public int days(int seed, int many, int what) {
        if (seed < 0 || seed > 9999 || many < 1 || many > 99 || what < 0 || what > 2) {
            return NONE;
        }
        shut++;
        int could = trial.live(now, seed, many);
        if (what == 0) {
            return could;
        }
        return what == 1 ? trial.forest.raisedInAll() : trial.forest.itemsOnFloor();
    }

    /** A MARK is laid, or gone back to. */
    public boolean mark(int mark, boolean back) {
        if (mark < 0 || mark >= MARKS || back && markedSize.at(mark) == NONE) {
            return false;
        }
        int start = mark * MOST_SEEN;
        if (back) {
            now.copyFrom(forestAt(marked, mark));
            seenSize = markedSize.at(mark);
            seen.copyPart(0, markedSeen, start, MOST_SEEN);
            undoable = 0;
        } else {
            forestAt(marked, mark).copyFrom(now);
            markedSize.set(mark, seenSize);
            markedSeen.copyPart(start, seen, 0, MOST_SEEN);
        }
        return true;
    }

    /** How many there are of this and that. */
    public int count(int what) {
        switch (what) {
            case 0:
                return plan.heapNames.size;
            case 1:
                return plan.shelfNames.size;
            case 2:
                return plan.itemNames.size;
            case 3:
                return plan.share;
            case 4:
                return now.itemsOnFloor();
            case 5:
                return now.raisedInAll();
            case 6:
                return shut;
            case 7:
                return lines.size;
            case 8:
                return seenSize;
            case 9:
                return undoable;
            case 10:
                return tape.size;
            default:
                return NONE;
        }
    }

    // ---- of use to several of these ----

    private boolean isHeap(int heap) {
        return heap >= 0 && heap < plan.heapNames.size;
    }

    private boolean isShelf(int shelf) {
        return shelf >= 0 && shelf < plan.shelfNames.size;
    }

    private boolean isItem(int item) {
        return item >= 0 && item < plan.itemNames.size;
    }

    /** A question of a HEAP told is SHUT once, whatever else it is asked with. */
    private boolean shutHeap(int heap) {
        if (!isHeap(heap)) {
            return false;
        }
        shut++;
        return true;
    }

    /** Called only when the work can be: what is kept of the oldest one goes. */
    private void remember() {
        newest = (newest + 1) % MOST_UNDONE;
        forestAt(past, newest).copyFrom(now);
        undoable = Math.min(undoable + 1, MOST_UNDONE);
    }

    private Forest forestAt(Forest[] row, int i) {
        Forest found = i >= 0 && i < row.length ? row[i] : now;
        return found == null ? now : found;
    }

    /** The bits of a SINGLE number of 0 or more; those here are never too small for a leading 1. */
    private static int bitsOf(float number) {
        if (number <= 0f) {
            return 0;
        }
        float fraction = number;
        int exponent = 127;
        for (int i = 0; i < 127 && fraction >= 2f; i++) {
            fraction = fraction / 2f;
            exponent++;
        }
        for (int i = 0; i < 126 && fraction < 1f; i++) {
            fraction = fraction * 2f;
            exponent--;
        }
        return (exponent << 23) + (int) ((fraction - 1f) * 8388608f);
    }

    /** A row of numbers. What lies outside answers NONE and takes nothing: no index is used unlooked at. */
    private static final class Row {
        private final int[] cells;

        Row(int room) {
            cells = new int[room < 0 ? 0 : room];
            fill(NONE);
        }

        int at(int i) {
            return i >= 0 && i < cells.length ? cells[i] : NONE;
        }

        void set(int i, int value) {
            if (i >= 0 && i < cells.length) {
                cells[i] = value;
            }
        }

        void fill(int value) {
            for (int i = 0; i < cells.length; i++) {
                cells[i] = value;
            }
        }

        void copyFrom(Row other) {
            for (int i = 0; i < cells.length && i < other.cells.length; i++) {
                cells[i] = other.cells[i];
            }
        }

        void copyPart(int start, Row other, int from, int many) {
            for (int i = 0; i < many; i++) {
                set(start + i, other.at(from + i));
            }
        }
    }

    /** Names in the order in which they were told. */
    private static final class Names {
        private final long[] letters;
        private int size = 0;

        Names(int room) {
            letters = new long[room < 0 ? 0 : room];
        }

        void add(long name) {
            if (size >= 0 && size < letters.length) {
                letters[size] = name;
                size++;
            }
        }

        int find(long name) {
            for (int i = 0; i < size && i < letters.length; i++) {
                if (letters[i] == name) {
                    return i;
                }
            }
            return NONE;
        }

        void copyFrom(Names other) {
            size = 0;
            for (int i = 0; i < other.size && i < other.letters.length; i++) {
                add(other.letters[i]);
            }
        }
    }

    /** The words that mean something. Those of facts alone may be NAMES too. */
    private enum Word {
        OTHER("", true, NONE, 0),
        HEAP("heap", false, NONE, 0),
        SHELF("shelf", false, NONE, 0),
        ITEM("item", false, NONE, 0),
        OVER("over", false, NONE, 0),
        IN("in", false, NONE, 0),
        SHARE("share", false, NONE, Law.SHARE),
        GROWS("grows", false, NONE, 0),
        PUT("put", false, NONE, 0),
        TAKE("take", false, NONE, 0),
        MELD("meld", false, NONE, 0),
        SHELVE("shelve", false, NONE, 0),
        PLAIN("plain", false, Plan.PLAIN, 0),
        URGENT("urgent", false, Plan.URGENT, 0),
        LATE("late", false, Plan.LATE, 0),
        ODD("odd", false, Plan.ODD, 0),
        NOT("not", false, NONE, 0),
        AND("and", false, NONE, 0),
        OR("or", false, NONE, 0),
        RANK("rank", true, NONE, Law.RANK),
        TARGET("target", true, NONE, Law.TARGET),
        ALL("all", true, NONE, Law.ALL);

        private static final Word[] WORDS = values();

        private final long letters;
        private final boolean free;
        private final int kind;
        private final int fact;

        Word(String text, boolean free, int kind, int fact) {
            this.letters = lettersOf(text);
            this.free = free;
            this.kind = kind;
            this.fact = fact;
        }

        /** A word of 8 letters at most is one number: no text need be kept. */
        private static long lettersOf(String text) {
            long sum = 0;
            for (int i = 0; i < text.length(); i++) {
                sum = withLetter(sum, text.charAt(i));
            }
            return sum;
        }

        static long withLetter(long letters, int sign) {
            return letters * 32 + (sign - 'a' + 1);
        }

        static Word of(long letters) {
            for (Word word : WORDS) {
                if (word.letters == letters) {
                    return word;
                }
            }
            return OTHER;
        }
    }

    /** The TAPE, and the TOKEN on it that is read just now. */
    private static final class Tape {
        private static final int ROOM = 1000;
        private static final int MOST_LETTERS = 8;
        private static final int MOST_DIGITS = 4;
        static final int END = 0;
        static final int WORD = 1;
        static final int NUMBER = 2;
        static final int SIGN = 3;
        static final int BAD = 4;

        private final byte[] signs = new byte[ROOM];
        private int size = 0;
        private int at = 0;

        private int type = END;
        private int place = 0;
        private Word word = Word.OTHER;
        private long letters = 0;
        private int number = NONE;
        private int sign = NONE;

        void addBytes(long bytes) {
            for (int shift = 56; shift >= 0; shift -= 8) {
                int next = (int) (bytes >>> shift & 255);
                boolean fit = next == 10 || next >= 32 && next <= 126;
                if (fit && size >= 0 && size < signs.length) {
                    signs[size] = (byte) next;
                    size++;
                }
            }
        }

        void begin() {
            at = 0;
            next();
        }

        /** Goes on to the next TOKEN. */
        void next() {
            while (at < size && (signAt(at) == ' ' || signAt(at) == 10)) {
                at++;
            }
            place = at;
            word = Word.OTHER;
            letters = 0;
            number = NONE;
            sign = NONE;
            int start = signAt(at);
            if (start == NONE) {
                type = END;
            } else if (isLetter(start)) {
                readWord();
            } else if (isDigit(start)) {
                readNumber();
            } else {
                readSign(start);
            }
        }

        private void readWord() {
            while (at < size && isLetter(signAt(at))) {
                letters = Word.withLetter(letters, signAt(at));
                at++;
            }
            type = at - place > MOST_LETTERS ? BAD : WORD;
            word = type == WORD ? Word.of(letters) : Word.OTHER;
        }

        private void readNumber() {
            int sum = 0;
            while (at < size && isDigit(signAt(at))) {
                sum = sum * 10 + signAt(at) - '0';
                at++;
            }
            type = at - place > MOST_DIGITS ? BAD : NUMBER;
            number = type == NUMBER ? sum : NONE;
        }

        private void readSign(int start) {
            at++;
            boolean known = start == '(' || start == ')' || start == '<' || start == '='
                || start == '+' || start == '-' || start == '*' || start == ';';
            type = known ? SIGN : BAD;
            sign = known ? start : NONE;
        }

        private int signAt(int i) {
            return i >= 0 && i < size && i < signs.length ? signs[i] : NONE;
        }

        private static boolean isLetter(int sign) {
            return sign >= 'a' && sign <= 'z';
        }

        private static boolean isDigit(int sign) {
            return sign >= '0' && sign <= '9';
        }
    }

    /** The law of how long LISTS may grow: an E in the order in which it is worked out, parts ahead of signs. */
    private static final class Law {
        static final int RANK = -2;
        static final int TARGET = -3;
        static final int SHARE = -4;
        static final int ALL = -5;
        static final int OPEN = -6;
        static final int NOT = -7;
        static final int AND = -8;
        static final int OR = -9;
        static final int LESS = -10;
        static final int SAME = -11;
        static final int PLUS = -12;
        static final int MINUS = -13;
        static final int TIMES = -14;
        private static final int ROOM = 1000;
        private static final int STACK = 64;
        private static final int LEAST = 1;
        private static final int MOST = 99;

        private final Row code = new Row(ROOM);
        private int size = 0;
        private final Row stack = new Row(STACK);

        /** A NUMBER is itself, all else one of the numbers below 0 above. */
        void add(int part) {
            code.set(size, part);
            size = Math.min(size + 1, ROOM);
        }

        void copyFrom(Law other) {
            code.copyFrom(other.code);
            size = other.size;
        }

        int targetFor(int rank, int target, int share, int all) {
            int sum;
            if (size == 0) {
                sum = rank <= share ? 1 : (3 * target + 1) / 2;
            } else {
                sum = workedOut(rank, target, share, all);
            }
            return Math.max(LEAST, Math.min(MOST, sum));
        }

        private int workedOut(int rank, int target, int share, int all) {
            int top = 0;
            for (int i = 0; i < size; i++) {
                int part = code.at(i);
                int upper = stack.at(top - 1);
                if (part == NOT) {
                    stack.set(top - 1, upper == 0 ? 1 : 0);
                } else if (part <= AND) {
                    top--;
                    stack.set(top - 1, joined(part, stack.at(top - 1), upper));
                } else {
                    stack.set(top, part >= 0 ? part
                        : part == RANK ? rank : part == TARGET ? target : part == SHARE ? share : all);
                    top++;
                }
            }
            return stack.at(0);
        }

        private static int joined(int sign, int a, int b) {
            switch (sign) {
                case AND:
                    return a != 0 && b != 0 ? 1 : 0;
                case OR:
                    return a != 0 || b != 0 ? 1 : 0;
                case LESS:
                    return a < b ? 1 : 0;
                case SAME:
                    return a == b ? 1 : 0;
                case PLUS:
                    return a + b;
                case MINUS:
                    return a - b;
                default:
                    return a * b;
            }
        }
    }

    /** Reads an E: signs wait until what binds more has been worked out. */
    private static final class LawReader {
        private static final int MOST_WITHIN = 5;
        private static final int WAITING = 64;
        private static final int TESTS = 1;
        private static final int COMPARED = 2;
        private static final int SUMS = 3;
        private static final int PRODUCTS = 4;

        private final Tape tape;
        private final Row waiting = new Row(WAITING);
        private int top = 0;
        private int within = 0;
        private int open = 0;
        private boolean partDue = true;

        LawReader(Tape tape) {
            this.tape = tape;
        }

        /** 0, the TAPE then stands behind the E; or the kind of FAULT of the TOKEN on which it stands. */
        int readLaw(Law law) {
            top = 0;
            within = 0;
            open = 0;
            partDue = true;
            for (int i = 0; i <= Tape.ROOM; i++) {
                if (!partDue && open == 0 && tape.sign == ';') {
                    settle(law, TESTS);
                    return 0;
                }
                int fault = partDue ? readPart(law) : readJoin(law);
                if (fault != 0) {
                    return fault;
                }
                tape.next();
            }
            return Reader.WRONG_PLACE;
        }

        private int readPart(Law law) {
            boolean opens = tape.sign == '(';
            boolean not = tape.word == Word.NOT;
            boolean number = tape.type == Tape.NUMBER;
            int fact = tape.word.fact;
            if (!opens && !not && !number && fact == 0) {
                return Reader.WRONG_PLACE;
            }
            if (within >= MOST_WITHIN) {
                return Reader.TOO_MANY;
            }
            if (opens || not) {
                hold(opens ? Law.OPEN : Law.NOT);
                within++;
                open += opens ? 1 : 0;
            } else {
                law.add(number ? tape.number : fact);
                endPart(law);
            }
            return 0;
        }

        private int readJoin(Law law) {
            if (tape.sign == ')' && open > 0) {
                settle(law, TESTS);
                top--;
                open--;
                within--;
                endPart(law);
                return 0;
            }
            int sign = joiningSign();
            if (sign == 0) {
                return Reader.WRONG_PLACE;
            }
            int level = levelOf(sign);
            if (level == COMPARED) {
                settle(law, SUMS);
                if (levelOf(waiting.at(top - 1)) == COMPARED) {
                    return Reader.WRONG_PLACE;
                }
            }
            settle(law, level);
            hold(sign);
            partDue = true;
            return 0;
        }

        /** Each not that stands right ahead of a PART is done with it. */
        private void endPart(Law law) {
            while (top > 0 && waiting.at(top - 1) == Law.NOT) {
                top--;
                within--;
                law.add(Law.NOT);
            }
            partDue = false;
        }

        private void settle(Law law, int level) {
            while (top > 0 && levelOf(waiting.at(top - 1)) >= level) {
                top--;
                law.add(waiting.at(top));
            }
        }

        private void hold(int sign) {
            waiting.set(top, sign);
            top++;
        }

        private int joiningSign() {
            if (tape.word == Word.AND) {
                return Law.AND;
            }
            if (tape.word == Word.OR) {
                return Law.OR;
            }
            switch (tape.sign) {
                case '<':
                    return Law.LESS;
                case '=':
                    return Law.SAME;
                case '+':
                    return Law.PLUS;
                case '-':
                    return Law.MINUS;
                case '*':
                    return Law.TIMES;
                default:
                    return 0;
            }
        }

        /** How strongly a sign binds; 0 for what settles nothing. */
        private static int levelOf(int sign) {
            switch (sign) {
                case Law.AND:
                case Law.OR:
                    return TESTS;
                case Law.LESS:
                case Law.SAME:
                    return COMPARED;
                case Law.PLUS:
                case Law.MINUS:
                    return SUMS;
                case Law.TIMES:
                    return PRODUCTS;
                default:
                    return 0;
            }
        }
    }

    /** A QUEUE as it was told. */
    private static final class Plan {
        static final int PLAIN = 0;
        static final int URGENT = 1;
        static final int LATE = 2;
        static final int ODD = 3;
        private static final int SHARE_UNTOLD = 2;

        private final Names heapNames = new Names(MOST_HEAPS);
        private final Names shelfNames = new Names(MOST_SHELVES);
        private final Names itemNames = new Names(MOST_ITEMS);
        private final Row shelfKinds = new Row(MOST_SHELVES);
        private final Row kinds = new Row(MOST_ITEMS);
        private final Row homes = new Row(MOST_ITEMS);
        private final float[] keys = new float[MOST_ITEMS];
        private final Law law = new Law();
        private int share = SHARE_UNTOLD;

        void clear() {
            heapNames.size = 0;
            shelfNames.size = 0;
            itemNames.size = 0;
            law.size = 0;
            share = SHARE_UNTOLD;
        }

        void copyFrom(Plan other) {
            heapNames.copyFrom(other.heapNames);
            shelfNames.copyFrom(other.shelfNames);
            itemNames.copyFrom(other.itemNames);
            shelfKinds.copyFrom(other.shelfKinds);
            kinds.copyFrom(other.kinds);
            homes.copyFrom(other.homes);
            for (int i = 0; i < keys.length; i++) {
                keys[i] = other.keyOf(i);
            }
            law.copyFrom(other.law);
            share = other.share;
        }

        void addShelf(long name, int kind) {
            shelfKinds.set(shelfNames.size, kind);
            shelfNames.add(name);
        }

        void addItem(long name, int kind, float quotient, int home) {
            int item = itemNames.size;
            kinds.set(item, kind);
            homes.set(item, home);
            if (item >= 0 && item < keys.length) {
                keys[item] = keyFor(kind, quotient);
            }
            itemNames.add(name);
        }

        private static float keyFor(int kind, float quotient) {
            switch (kind) {
                case URGENT:
                    return quotient * 0.5f;
                case LATE:
                    return quotient + 0.1f;
                case ODD:
                    return 1f / (quotient + 1f);
                default:
                    return quotient;
            }
        }

        boolean isTold(long name) {
            return heapNames.find(name) != NONE || shelfNames.find(name) != NONE || itemNames.find(name) != NONE;
        }

        float keyOf(int item) {
            return item >= 0 && item < keys.length ? keys[item] : 0f;
        }

        /** Whether an ITEM stands ahead of another one by KEYS, of equal ones by numbers. */
        boolean isAhead(int item, int other) {
            float a = keyOf(item);
            float b = keyOf(other);
            return a < b || a == b && item < other;
        }
    }

    /** The lines of a WORK. */
    private static final class Work {
        static final int PUT = 0;
        static final int TAKE = 1;
        static final int MELD = 2;
        static final int SHELVE = 3;

        private final Row deeds = new Row(MOST_LINES);
        private final Row firsts = new Row(MOST_LINES);
        private final Row seconds = new Row(MOST_LINES);
        private int size = 0;

        void add(int deed, int first, int second) {
            deeds.set(size, deed);
            firsts.set(size, first);
            seconds.set(size, second);
            size = Math.min(size + 1, MOST_LINES);
        }

        void copyFrom(Work other) {
            deeds.copyFrom(other.deeds);
            firsts.copyFrom(other.firsts);
            seconds.copyFrom(other.seconds);
            size = other.size;
        }
    }

    /** Reads a QUEUE or a WORK. Behind the first FAULT nothing is read any more. */
    private static final class Reader {
        static final int WRONG_PLACE = 1;
        static final int UNKNOWN = 2;
        static final int TOLD_ALREADY = 3;
        static final int WRONG_NUMBER = 4;
        static final int TOO_MANY = 5;

        private final Tape tape;
        private final LawReader laws;
        private int fault = 0;
        private boolean shareTold = false;
        private boolean growsTold = false;

        Reader(Tape tape) {
            this.tape = tape;
            this.laws = new LawReader(tape);
        }

        int readQueue(Plan plan) {
            fault = 0;
            shareTold = false;
            growsTold = false;
            plan.clear();
            tape.begin();
            for (int i = 0; i <= Tape.ROOM && fault == 0 && tape.type != Tape.END; i++) {
                Word word = tape.word;
                if (word == Word.HEAP) {
                    readHeap(plan);
                } else if (word == Word.SHELF) {
                    readShelf(plan);
                } else if (word == Word.ITEM) {
                    readItem(plan);
                } else if (word == Word.SHARE) {
                    readShare(plan);
                } else if (word == Word.GROWS) {
                    readGrows(plan);
                } else {
                    fail(WRONG_PLACE);
                }
            }
            return fault;
        }

        private void readHeap(Plan plan) {
            begin(plan.heapNames.size >= MOST_HEAPS ? TOO_MANY : 0);
            long name = newName(plan);
            expectEnd();
            if (fault == 0) {
                plan.heapNames.add(name);
            }
        }

        private void readShelf(Plan plan) {
            begin(plan.shelfNames.size >= MOST_SHELVES ? TOO_MANY : 0);
            long name = newName(plan);
            int kind = toldKind();
            expectEnd();
            if (fault == 0) {
                plan.addShelf(name, kind);
            }
        }

        private void readItem(Plan plan) {
            begin(plan.itemNames.size >= MOST_ITEMS ? TOO_MANY : 0);
            long name = newName(plan);
            int kind = toldKind();
            int upper = toldNumber(0, 999);
            expect(Word.OVER);
            int lower = toldNumber(1, 99);
            expect(Word.IN);
            int home = oldName(plan.heapNames, NONE);
            expectEnd();
            if (fault == 0 && lower > 0) {
                plan.addItem(name, kind, (float) upper / (float) lower, home);
            }
        }

        private void readShare(Plan plan) {
            begin(shareTold ? TOLD_ALREADY : 0);
            shareTold = true;
            int share = toldNumber(0, 6);
            expectEnd();
            if (fault == 0) {
                plan.share = share;
            }
        }

        private void readGrows(Plan plan) {
            begin(growsTold ? TOLD_ALREADY : 0);
            growsTold = true;
            if (fault == 0) {
                fail(laws.readLaw(plan.law));
            }
            expectEnd();
        }

        int readWork(Plan plan, Work work) {
            fault = 0;
            work.size = 0;
            tape.begin();
            for (int i = 0; i <= Tape.ROOM && fault == 0 && tape.type != Tape.END; i++) {
                readLine(plan, work);
            }
            return fault;
        }

        private void readLine(Plan plan, Work work) {
            Word word = tape.word;
            int deed = word == Word.PUT ? Work.PUT : word == Word.TAKE ? Work.TAKE
                : word == Word.MELD ? Work.MELD : word == Word.SHELVE ? Work.SHELVE : NONE;
            begin(deed == NONE ? WRONG_PLACE : work.size >= MOST_LINES ? TOO_MANY : 0);
            int first = oldName(deed == Work.PUT ? plan.itemNames : plan.heapNames, NONE);
            int second = NONE;
            if (deed != Work.TAKE) {
                second = oldName(deed == Work.SHELVE ? plan.shelfNames : plan.heapNames,
                    deed == Work.MELD ? first : NONE);
            }
            expectEnd();
            if (fault == 0) {
                work.add(deed, first, second);
            }
        }

        // Each of the following is one TOKEN; behind a FAULT none does anything.

        /** The FAULT of the TOKEN on which the TAPE stands, if it has one (kind 0: none). */
        private void fail(int kind) {
            if (fault == 0 && kind != 0) {
                fault = kind + 16 * tape.place;
            }
        }

        private void pass() {
            if (fault == 0) {
                tape.next();
            }
        }

        private void begin(int kind) {
            fail(kind);
            pass();
        }

        private void expect(Word word) {
            fail(tape.word == word ? 0 : WRONG_PLACE);
            pass();
        }

        private void expectEnd() {
            fail(tape.sign == ';' ? 0 : WRONG_PLACE);
            pass();
        }

        private boolean isName() {
            return tape.type == Tape.WORD && tape.word.free;
        }

        private long newName(Plan plan) {
            long name = tape.letters;
            fail(!isName() ? WRONG_PLACE : plan.isTold(name) ? TOLD_ALREADY : 0);
            pass();
            return name;
        }

        /** Of a NAME told the number; it must be another one than that which is left out (NONE: none is). */
        private int oldName(Names names, int leftOut) {
            int found = names.find(tape.letters);
            fail(!isName() ? WRONG_PLACE : found == NONE ? UNKNOWN : found == leftOut ? TOLD_ALREADY : 0);
            pass();
            return found;
        }

        private int toldKind() {
            int kind = tape.word.kind;
            fail(kind == NONE ? WRONG_PLACE : 0);
            pass();
            return kind;
        }

        private int toldNumber(int least, int most) {
            int number = tape.number;
            fail(tape.type != Tape.NUMBER ? WRONG_PLACE : number < least || number > most ? WRONG_NUMBER : 0);
            pass();
            return number;
        }
    }

    /** Where all ITEMS are: HEAPS with their TREES, SHELVES, the FLOOR. NODES are numbers, used again. */
    private static final class Forest {
        private static final int RANKS = 24; // 2 to the power of this many PUTS are more than any object sees
        private static final int NODES = 24; // a NODE at rest has an ITEM; one more is made ahead of its LIST
        private static final int PLACES = 4;
        private static final int ENOUGH = 1000000;

        private final Plan plan;
        private final Row ranks = new Row(NODES); // NONE: the NODE is free
        private final Row targets = new Row(NODES);
        private final Row leads = new Row(NODES); // the ITEM whose KEY is the CKEY
        private final Row heads = new Row(NODES);
        private final Row tails = new Row(NODES);
        private final Row sizes = new Row(NODES);
        private final Row firsts = new Row(NODES);
        private final Row seconds = new Row(NODES);
        private final Row aboves = new Row(NODES);
        private final Row roots = new Row(MOST_HEAPS * RANKS);
        private final Row nexts = new Row(MOST_ITEMS); // behind an ITEM in its LIST
        private final Row nodes = new Row(MOST_ITEMS); // in whose LIST an ITEM is
        private final Row heaps = new Row(MOST_ITEMS);
        private final Row shelves = new Row(MOST_ITEMS);
        private final Row places = new Row(MOST_ITEMS);

        Forest(Plan plan) {
            this.plan = plan;
        }

        void copyFrom(Forest other) {
            ranks.copyFrom(other.ranks);
            targets.copyFrom(other.targets);
            leads.copyFrom(other.leads);
            heads.copyFrom(other.heads);
            tails.copyFrom(other.tails);
            sizes.copyFrom(other.sizes);
            firsts.copyFrom(other.firsts);
            seconds.copyFrom(other.seconds);
            aboves.copyFrom(other.aboves);
            roots.copyFrom(other.roots);
            nexts.copyFrom(other.nexts);
            nodes.copyFrom(other.nodes);
            heaps.copyFrom(other.heaps);
            shelves.copyFrom(other.shelves);
            places.copyFrom(other.places);
        }

        /** All HEAPS and SHELVES are empty then. */
        void clear() {
            ranks.fill(NONE);
            roots.fill(NONE);
            nodes.fill(NONE);
            heaps.fill(NONE);
            shelves.fill(NONE);
            places.fill(NONE);
        }

        /** All is then as the QUEUE was told. */
        void tell() {
            clear();
            for (int item = 0; item < plan.itemNames.size; item++) {
                putIn(item, plan.homes.at(item));
            }
        }

        // ---- works ----

        boolean putIn(int item, int heap) {
            if (heaps.at(item) != NONE) {
                return false;
            }
            shelves.set(item, NONE);
            places.set(item, NONE);
            heaps.set(item, heap);
            int leaf = newNode(0, 1);
            leads.set(leaf, item);
            heads.set(leaf, item);
            tails.set(leaf, item);
            sizes.set(leaf, 1);
            nexts.set(item, NONE);
            nodes.set(item, leaf);
            join(leaf, heap);
            return true;
        }

        int takeFrom(int heap) {
            int root = leastRoot(heap);
            if (root == NONE) {
                return NONE;
            }
            int item = heads.at(root);
            heads.set(root, nexts.at(item));
            sizes.set(root, sizes.at(root) - 1);
            nexts.set(item, NONE);
            nodes.set(item, NONE);
            heaps.set(item, NONE);
            if (sizes.at(root) <= targets.at(root) / 2) {
                if (!isLeaf(root)) {
                    sift(root);
                } else if (sizes.at(root) == 0) {
                    roots.set(slot(heap, ranks.at(root)), NONE);
                    ranks.set(root, NONE);
                }
            }
            return item;
        }

        boolean meldInto(int heap, int into) {
            if (heap == into) {
                return false;
            }
            for (int rank = 0; rank < RANKS; rank++) {
                int root = roots.at(slot(heap, rank));
                if (root != NONE) {
                    roots.set(slot(heap, rank), NONE);
                    // the law may ask how many ITEMS the HEAP has: those of this TREE count from here
                    for (int item = 0; item < MOST_ITEMS; item++) {
                        if (rootOver(nodes.at(item)) == root) {
                            heaps.set(item, into);
                        }
                    }
                    join(root, into);
                }
            }
            return true;
        }

        int shelveFrom(int heap, int shelf) {
            int item = takeFrom(heap);
            if (item == NONE) {
                return NONE;
            }
            int place = freePlace(shelf);
            if (place == NONE || plan.kinds.at(item) != plan.shelfKinds.at(shelf)) {
                return 0;
            }
            shelves.set(item, shelf);
            places.set(item, place);
            return 1;
        }

        private int freePlace(int shelf) {
            for (int place = 0; place < PLACES; place++) {
                boolean free = true;
                for (int item = 0; item < MOST_ITEMS; item++) {
                    free = free && (shelves.at(item) != shelf || places.at(item) != place);
                }
                if (free) {
                    return place;
                }
            }
            return NONE;
        }

        // ---- trees ----

        private static int slot(int heap, int rank) {
            return heap < 0 || rank < 0 || rank >= RANKS ? NONE : heap * RANKS + rank;
        }

        private int newNode(int rank, int target) {
            for (int node = 0; node < NODES; node++) {
                if (ranks.at(node) == NONE) {
                    ranks.set(node, rank);
                    targets.set(node, target);
                    leads.set(node, NONE);
                    heads.set(node, NONE);
                    tails.set(node, NONE);
                    sizes.set(node, 0);
                    firsts.set(node, NONE);
                    seconds.set(node, NONE);
                    aboves.set(node, NONE);
                    return node;
                }
            }
            return NONE;
        }

        private void join(int tree, int heap) {
            int carried = tree;
            int all = itemsIn(heap);
            for (int rank = ranks.at(tree); rank < RANKS; rank++) {
                int held = roots.at(slot(heap, rank));
                if (held == NONE) {
                    roots.set(slot(heap, rank), carried);
                    return;
                }
                roots.set(slot(heap, rank), NONE);
                int greater = Math.max(targets.at(held), targets.at(carried));
                int root = newNode(rank + 1, plan.law.targetFor(rank + 1, greater, plan.share, all));
                firsts.set(root, held);
                seconds.set(root, carried);
                aboves.set(held, root);
                aboves.set(carried, root);
                sift(root);
                carried = root;
            }
        }

        /** A CHILD left empty is SIFTED ahead of its parent's next look: the walk goes down to it and comes back. */
        private void sift(int top) {
            int node = top;
            for (int i = 0; i < ENOUGH && node != NONE; i++) {
                if (sizes.at(node) >= targets.at(node) || isLeaf(node)) {
                    node = node == top ? NONE : aboves.at(node);
                } else {
                    int child = lesserChild(node);
                    drawUp(child, node);
                    if (isLeaf(child)) {
                        ranks.set(child, NONE);
                        firsts.set(node, NONE);
                    } else {
                        node = child;
                    }
                }
            }
        }

        /** The lesser CHILD is the first one then; of equal ones they stay as they are. */
        private int lesserChild(int node) {
            int first = firsts.at(node);
            int second = seconds.at(node);
            boolean less = second != NONE && plan.keyOf(leads.at(second)) < plan.keyOf(leads.at(first));
            if (first != NONE && !less) {
                return first;
            }
            firsts.set(node, second);
            seconds.set(node, first);
            return second;
        }

        /** A CHILD's LIST comes behind that of its parent. */
        private void drawUp(int child, int node) {
            int item = heads.at(child);
            if (sizes.at(node) == 0) {
                heads.set(node, item);
            } else {
                nexts.set(tails.at(node), item);
            }
            for (int i = 0; i < MOST_ITEMS && item != NONE; i++) {
                nodes.set(item, node);
                item = nexts.at(item);
            }
            tails.set(node, tails.at(child));
            sizes.set(node, sizes.at(node) + sizes.at(child));
            leads.set(node, leads.at(child));
            heads.set(child, NONE);
            sizes.set(child, 0);
        }

        private boolean isLeaf(int node) {
            return firsts.at(node) == NONE && seconds.at(node) == NONE;
        }

        private int leastRoot(int heap) {
            int least = NONE;
            for (int rank = 0; rank < RANKS; rank++) {
                int root = roots.at(slot(heap, rank));
                if (root != NONE && (least == NONE || plan.keyOf(leads.at(root)) < plan.keyOf(leads.at(least)))) {
                    least = root;
                }
            }
            return least;
        }

        private int rootOver(int node) {
            int root = node;
            for (int i = 0; i < NODES && aboves.at(root) != NONE; i++) {
                root = aboves.at(root);
            }
            return root;
        }

        // ---- how all stands ----

        int depthOf(int node) {
            int depth = 0;
            for (int above = aboves.at(node); depth < NODES && above != NONE; above = aboves.at(above)) {
                depth++;
            }
            return depth;
        }

        int treeAt(int heap, int i) {
            int left = i;
            for (int rank = 0; rank < RANKS; rank++) {
                int root = roots.at(slot(heap, rank));
                if (root != NONE && left == 0) {
                    return root;
                }
                left -= root != NONE ? 1 : 0;
            }
            return NONE;
        }

        int treesIn(int heap) {
            int trees = 0;
            for (int rank = 0; rank < RANKS; rank++) {
                trees += roots.at(slot(heap, rank)) != NONE ? 1 : 0;
            }
            return trees;
        }

        int greatestRank(int heap) {
            int greatest = NONE;
            for (int rank = 0; rank < RANKS; rank++) {
                greatest = roots.at(slot(heap, rank)) != NONE ? rank : greatest;
            }
            return greatest;
        }

        int nodesUnder(int root) {
            int many = 0;
            for (int node = 0; node < NODES; node++) {
                many += ranks.at(node) != NONE && rootOver(node) == root ? 1 : 0;
            }
            return many;
        }

        int listedAt(int node, int i) {
            if (i < 0 || i >= sizes.at(node)) {
                return NONE;
            }
            int item = heads.at(node);
            for (int left = i; left > 0; left--) {
                item = nexts.at(item);
            }
            return item;
        }

        int itemsIn(int heap) {
            int many = 0;
            for (int item = 0; item < MOST_ITEMS; item++) {
                many += heaps.at(item) == heap ? 1 : 0;
            }
            return many;
        }

        int itemsOn(int shelf) {
            int many = 0;
            for (int item = 0; item < MOST_ITEMS; item++) {
                many += shelves.at(item) == shelf ? 1 : 0;
            }
            return many;
        }

        int itemsOnFloor() {
            int many = 0;
            for (int item = 0; item < plan.itemNames.size; item++) {
                many += heaps.at(item) == NONE && shelves.at(item) == NONE ? 1 : 0;
            }
            return many;
        }

        boolean isRaised(int item) {
            int node = nodes.at(item);
            return node != NONE && plan.keyOf(item) < plan.keyOf(leads.at(node));
        }

        int raisedIn(int heap) {
            int many = 0;
            for (int item = 0; item < MOST_ITEMS; item++) {
                many += heaps.at(item) == heap && isRaised(item) ? 1 : 0;
            }
            return many;
        }

        int raisedInAll() {
            int many = 0;
            for (int item = 0; item < MOST_ITEMS; item++) {
                many += isRaised(item) ? 1 : 0;
            }
            return many;
        }

        /** How many ITEMS of a HEAP stand ahead of one by KEYS. */
        int aheadOf(int heap, int item) {
            int many = 0;
            for (int other = 0; other < MOST_ITEMS; other++) {
                many += heaps.at(other) == heap && plan.isAhead(other, item) ? 1 : 0;
            }
            return many;
        }

        int selected(int heap, int i) {
            for (int item = 0; item < MOST_ITEMS; item++) {
                if (heaps.at(item) == heap && aheadOf(heap, item) == i) {
                    return item;
                }
            }
            return NONE;
        }
    }

    /** What would come of it: all is tried in a Forest of its own, so that the one asked about stays as it is. */
    private static final class Trial {
        private final Plan plan;
        private final Forest forest;
        private final Row order = new Row(MOST_ITEMS); // the ITEMS of a HEAP as they come
        private int size = 0;
        private final Row chosen = new Row(MOST_ITEMS); // 1: STEPS still look among these
        private final Row kindsToCome = new Row(MOST_HEAPS * PLACES_SEEN);
        private long drawn = 0;

        Trial(Plan plan) {
            this.plan = plan;
            this.forest = new Forest(plan);
        }

        // ---- the order in which they would come ----

        void takeAll(Forest from, int heap) {
            forest.copyFrom(from);
            order.fill(NONE);
            size = 0;
            for (int i = 0; i < MOST_ITEMS; i++) {
                int item = forest.takeFrom(heap);
                if (item == NONE) {
                    return;
                }
                order.set(size, item);
                size++;
            }
        }

        int awayOf(int item) {
            int comes = 0;
            int byKeys = 0;
            for (int i = 0; i < size; i++) {
                comes = order.at(i) == item ? i : comes;
                byKeys += plan.isAhead(order.at(i), item) ? 1 : 0;
            }
            return comes - byKeys;
        }

        int farthest() {
            int most = 0;
            for (int i = 0; i < size; i++) {
                most = Math.max(most, Math.abs(awayOf(order.at(i))));
            }
            return most;
        }

        int wrongPairs() {
            int pairs = 0;
            for (int later = 0; later < size; later++) {
                for (int i = 0; i < later; i++) {
                    pairs += plan.keyOf(order.at(later)) < plan.keyOf(order.at(i)) ? 1 : 0;
                }
            }
            return pairs;
        }

        float sum() {
            float sum = 0f;
            for (int i = 0; i < size; i++) {
                sum = sum + plan.keyOf(order.at(i));
            }
            return sum;
        }

        // ---- selection by splits ----

        int splitOf(Forest from, int heap) {
            forest.copyFrom(from);
            return greatestOfThird(heap);
        }

        private int greatestOfThird(int heap) {
            int third = Math.max(1, forest.itemsIn(heap) / 3);
            int greatest = NONE;
            for (int i = 0; i < third; i++) {
                int item = forest.takeFrom(heap);
                if (item != NONE && (greatest == NONE || plan.isAhead(greatest, item))) {
                    greatest = item;
                }
            }
            return greatest;
        }

        int stepsTo(Forest from, int heap, int i) {
            int goal = from.selected(heap, i);
            if (goal == NONE) {
                return NONE;
            }
            for (int item = 0; item < MOST_ITEMS; item++) {
                chosen.set(item, from.heaps.at(item) == heap ? 1 : 0);
            }
            for (int step = 1; step <= MOST_ITEMS; step++) {
                int found = splitOfChosen();
                if (found == goal) {
                    return step;
                }
                keepSide(found, goal);
            }
            return NONE;
        }

        private int splitOfChosen() {
            forest.clear();
            for (int item = 0; item < MOST_ITEMS; item++) {
                if (chosen.at(item) == 1) {
                    forest.putIn(item, 0);
                }
            }
            return greatestOfThird(0);
        }

        private void keepSide(int found, int goal) {
            boolean ahead = plan.isAhead(goal, found);
            for (int item = 0; item < MOST_ITEMS; item++) {
                if (item == found || plan.isAhead(item, found) != ahead) {
                    chosen.set(item, 0);
                }
            }
        }

        // ---- which heap it was ----

        void foresee(Forest from) {
            kindsToCome.fill(NONE);
            for (int heap = 0; heap < plan.heapNames.size; heap++) {
                takeAll(from, heap);
                for (int i = 0; i < PLACES_SEEN && i < size; i++) {
                    kindsToCome.set(heap * PLACES_SEEN + i, plan.kinds.at(order.at(i)));
                }
            }
        }

        private boolean gives(int heap, int i, int kind) {
            return kindsToCome.at(heap * PLACES_SEEN + i) == kind;
        }

        /** The HEAPS, as bits, by which all SEEN is so. */
        int fitting(Row seen, int seenSize) {
            int bits = 0;
            for (int heap = 0; heap < plan.heapNames.size; heap++) {
                boolean fits = true;
                for (int k = 0; k < seenSize; k++) {
                    int told = seen.at(k);
                    fits = fits && gives(heap, told / 2 / KINDS, told / 2 % KINDS) == (told % 2 == 1);
                }
                bits |= fits ? 1 << heap : 0;
            }
            return bits;
        }

        int bestQuestion(int heapBits) {
            int all = Integer.bitCount(heapBits);
            int least = all;
            int best = NONE;
            for (int question = 0; question < PLACES_SEEN * KINDS; question++) {
                int would = 0;
                for (int heap = 0; heap < plan.heapNames.size; heap++) {
                    boolean asked = (heapBits >> heap & 1) == 1;
                    would += asked && gives(heap, question / KINDS, question % KINDS) ? 1 : 0;
                }
                int greater = Math.max(would, all - would);
                if (greater < least) {
                    least = greater;
                    best = question;
                }
            }
            return best;
        }

        // ---- works that are told, works by draws ----

        /** The first line that can't be; the Forest then stands as the WORK leaves it. */
        int judge(Work lines) {
            forest.tell();
            int wrong = NONE;
            for (int line = 0; line < lines.size; line++) {
                boolean could = doLine(lines.deeds.at(line), lines.firsts.at(line), lines.seconds.at(line));
                wrong = !could && wrong == NONE ? line : wrong;
            }
            return wrong;
        }

        private boolean doLine(int deed, int first, int second) {
            switch (deed) {
                case Work.PUT:
                    return forest.putIn(first, second);
                case Work.TAKE:
                    return forest.takeFrom(first) != NONE;
                case Work.MELD:
                    return forest.meldInto(first, second);
                default:
                    return forest.shelveFrom(first, second) != NONE;
            }
        }

        /** How many of the days' works could be; the Forest then stands as they leave it. */
        int live(Forest from, int seed, int many) {
            forest.copyFrom(from);
            drawn = seed;
            int heaps = plan.heapNames.size;
            int items = plan.itemNames.size;
            int could = 0;
            for (int day = 0; day < many && heaps > 0 && items > 0; day++) {
                int heap = drawBelow(heaps);
                int item = drawBelow(items);
                int deed = drawBelow(4);
                boolean done;
                if (deed < 2) {
                    done = forest.putIn(item, heap);
                } else if (deed == 2) {
                    done = forest.takeFrom(heap) != NONE;
                } else {
                    done = forest.meldInto(heap, heap + 1 < heaps ? heap + 1 : 0);
                }
                could += done ? 1 : 0;
            }
            return could;
        }

        private int drawBelow(int most) {
            drawn = (drawn * 1103515245L + 12345L) % 2147483648L;
            return most > 0 ? (int) (drawn / 65536L % most) : 0;
        }
    }
}
