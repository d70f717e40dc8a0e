import java.util.ArrayDeque;
import java.util.ArrayList;
import java.util.Comparator;
import java.util.HashMap;
import java.util.List;
import java.util.Map;
import java.util.NoSuchElementException;
import java.util.TreeMap;
import java.util.regex.Matcher;
import java.util.regex.Pattern;

/**
 * The document written down a second time, word by word and with no thought of room, so that RaisedQueue can
 * be held against it. It shares no code and no way of working with the class: trees are objects, states are
 * copied whole, and where a NODE is, is searched for.
 */
public final class Model {
    private static final List<String> RESERVED = List.of("heap", "shelf", "item", "over", "in", "share", "grows",
        "put", "take", "meld", "shelve", "plain", "urgent", "late", "odd", "not", "and", "or");
    private static final List<String> KINDS = List.of("plain", "urgent", "late", "odd");

    // ---- what is told ----

    private interface Law {
        int of(int rank, int target, int share, int all);
    }

    private static final class Told {
        final List<String> heaps = new ArrayList<>();
        final List<String> shelves = new ArrayList<>();
        final List<String> items = new ArrayList<>();
        final List<Integer> shelfKind = new ArrayList<>();
        final List<Integer> itemKind = new ArrayList<>();
        final List<Integer> itemHeap = new ArrayList<>();
        final List<Float> key = new ArrayList<>();
        Integer share;
        Law law;

        int shareAtLast() {
            return share == null ? 2 : share;
        }

        int target(int rank, int target, int all) {
            int share = shareAtLast();
            int sum = law != null ? law.of(rank, target, share, all)
                : rank <= share ? 1 : (3 * target + 1) / 2;
            return sum < 1 ? 1 : sum > 99 ? 99 : sum;
        }

        Comparator<Integer> byKeys() {
            return (a, b) -> {
                int c = Float.compare(key.get(a), key.get(b));
                return c != 0 ? c : Integer.compare(a, b);
            };
        }
    }

    private static final class Node {
        int rank;
        int target;
        float ckey;
        List<Integer> list = new ArrayList<>();
        Node first;
        Node second;

        Node copy() {
            Node n = new Node();
            n.rank = rank;
            n.target = target;
            n.ckey = ckey;
            n.list = new ArrayList<>(list);
            n.first = first == null ? null : first.copy();
            n.second = second == null ? null : second.copy();
            return n;
        }

        List<Node> all() {
            List<Node> nodes = new ArrayList<>(List.of(this));
            if (first != null) {
                nodes.addAll(first.all());
            }
            if (second != null) {
                nodes.addAll(second.all());
            }
            return nodes;
        }

        boolean leaf() {
            return first == null && second == null;
        }

        void sift() {
            while (list.size() < target && !leaf()) {
                if (first == null || second != null && second.ckey < first.ckey) {
                    Node n = first;
                    first = second;
                    second = n;
                }
                list.addAll(first.list);
                ckey = first.ckey;
                first.list.clear();
                if (first.leaf()) {
                    first = null;
                } else {
                    first.sift();
                }
            }
        }
    }

    private final class State {
        final List<TreeMap<Integer, Node>> heaps = new ArrayList<>();
        final Integer[][] shelves = new Integer[2][4];

        State copy() {
            State s = new State();
            for (TreeMap<Integer, Node> heap : heaps) {
                TreeMap<Integer, Node> trees = new TreeMap<>();
                heap.forEach((rank, root) -> trees.put(rank, root.copy()));
                s.heaps.add(trees);
            }
            for (int i = 0; i < 2; i++) {
                s.shelves[i] = shelves[i].clone();
            }
            return s;
        }

        List<Node> nodes(int heap) {
            List<Node> nodes = new ArrayList<>();
            heaps.get(heap).values().forEach(root -> nodes.addAll(root.all()));
            return nodes;
        }

        List<Integer> items(int heap) {
            List<Integer> items = new ArrayList<>();
            nodes(heap).forEach(node -> items.addAll(node.list));
            items.sort(Comparator.naturalOrder());
            return items;
        }

        int heapOf(int item) {
            for (int h = 0; h < heaps.size(); h++) {
                if (items(h).contains(item)) {
                    return h;
                }
            }
            return -1;
        }

        int[] shelfOf(int item) {
            for (int s = 0; s < 2; s++) {
                for (int p = 0; p < 4; p++) {
                    if (shelves[s][p] != null && shelves[s][p] == item) {
                        return new int[] {s, p};
                    }
                }
            }
            return new int[] {-1, -1};
        }

        Node nodeOf(int item) {
            for (int h = 0; h < heaps.size(); h++) {
                for (Node node : nodes(h)) {
                    if (node.list.contains(item)) {
                        return node;
                    }
                }
            }
            return null;
        }

        boolean raised(int item) {
            Node node = nodeOf(item);
            return node != null && told.key.get(item) < node.ckey;
        }

        int raised() {
            int many = 0;
            for (int i = 0; i < told.items.size(); i++) {
                many += raised(i) ? 1 : 0;
            }
            return many;
        }

        int floor() {
            int many = 0;
            for (int i = 0; i < told.items.size(); i++) {
                many += heapOf(i) < 0 && shelfOf(i)[0] < 0 ? 1 : 0;
            }
            return many;
        }

        void join(Node tree, int heap) {
            TreeMap<Integer, Node> trees = heaps.get(heap);
            int all = items(heap).size();
            for (Node node : tree.all()) {
                all += node.list.size();
            }
            Node joined = tree;
            while (trees.containsKey(joined.rank)) {
                Node held = trees.remove(joined.rank);
                Node root = new Node();
                root.rank = joined.rank + 1;
                root.target = told.target(root.rank, Math.max(held.target, joined.target), all);
                root.first = held;
                root.second = joined;
                root.sift();
                joined = root;
            }
            trees.put(joined.rank, joined);
        }

        boolean put(int item, int heap) {
            if (heapOf(item) >= 0) {
                return false;
            }
            int[] place = shelfOf(item);
            if (place[0] >= 0) {
                shelves[place[0]][place[1]] = null;
            }
            Node leaf = new Node();
            leaf.target = 1;
            leaf.ckey = told.key.get(item);
            leaf.list.add(item);
            join(leaf, heap);
            return true;
        }

        int take(int heap) {
            TreeMap<Integer, Node> trees = heaps.get(heap);
            Node least = null;
            for (Node root : trees.values()) {
                if (least == null || root.ckey < least.ckey) {
                    least = root;
                }
            }
            if (least == null) {
                return -1;
            }
            int item = least.list.remove(0);
            if (least.list.size() <= least.target / 2) {
                if (!least.leaf()) {
                    least.sift();
                } else if (least.list.isEmpty()) {
                    trees.remove(least.rank);
                }
            }
            return item;
        }

        boolean meld(int heap, int into) {
            if (heap == into) {
                return false;
            }
            List<Node> roots = new ArrayList<>(heaps.get(heap).values());
            heaps.get(heap).clear();
            roots.forEach(root -> join(root, into));
            return true;
        }

        int shelve(int heap, int shelf) {
            int item = take(heap);
            if (item < 0) {
                return -1;
            }
            if (told.itemKind.get(item).equals(told.shelfKind.get(shelf))) {
                for (int p = 0; p < 4; p++) {
                    if (shelves[shelf][p] == null) {
                        shelves[shelf][p] = item;
                        return 1;
                    }
                }
            }
            return 0;
        }

        List<Integer> order(int heap) {
            State s = copy();
            List<Integer> order = new ArrayList<>();
            for (int item = s.take(heap); item >= 0; item = s.take(heap)) {
                order.add(item);
            }
            return order;
        }

        /** The ITEM of the SPLIT. */
        int split(int heap) {
            State s = copy();
            int third = Math.max(1, items(heap).size() / 3);
            List<Integer> out = new ArrayList<>();
            for (int i = 0; i < third; i++) {
                out.add(s.take(heap));
            }
            out.sort(told.byKeys());
            return out.get(out.size() - 1);
        }
    }

    private static final class Line {
        String word;
        int first;
        int second = -1;
    }

    private static final class Mark {
        State state;
        List<int[]> seen;
    }

    private final StringBuilder tape = new StringBuilder();
    private Told told = new Told();
    private State now = new State();
    private List<Line> lines = new ArrayList<>();
    private List<int[]> seen = new ArrayList<>();
    private ArrayDeque<State> past = new ArrayDeque<>();
    private Map<Integer, Mark> marks = new HashMap<>();
    private int shut;

    private State fresh() {
        State s = new State();
        told.heaps.forEach(name -> s.heaps.add(new TreeMap<>()));
        return s;
    }

    private State asTold() {
        State s = fresh();
        for (int i = 0; i < told.items.size(); i++) {
            s.put(i, told.itemHeap.get(i));
        }
        return s;
    }

    // ---- reading ----

    private static final class Fault extends Exception {
        private static final long serialVersionUID = 1L;
        final int code;

        Fault(int kind, int place) {
            code = kind + 16 * place;
        }
    }

    private static final Pattern TOKEN = Pattern.compile("[a-z]+|[0-9]+|[^ \n]");

    private final class Parser {
        final List<String> tokens = new ArrayList<>();
        final List<Integer> places = new ArrayList<>();
        int at;

        Parser(String text) {
            Matcher m = TOKEN.matcher(text);
            while (m.find()) {
                tokens.add(m.group());
                places.add(m.start());
            }
            places.add(text.length());
        }

        String peek() {
            return at < tokens.size() ? tokens.get(at) : "";
        }

        Fault fault(int kind) {
            return new Fault(kind, places.get(at));
        }

        boolean isWord() {
            return peek().matches("[a-z]{1,8}");
        }

        boolean isNumber() {
            return peek().matches("[0-9]{1,4}");
        }

        void expect(String text) throws Fault {
            if (!peek().equals(text)) {
                throw fault(1);
            }
            at++;
        }

        String name() throws Fault {
            if (!isWord() || RESERVED.contains(peek())) {
                throw fault(1);
            }
            return tokens.get(at);
        }

        String newName(Told t) throws Fault {
            String name = name();
            if (t.heaps.contains(name) || t.shelves.contains(name) || t.items.contains(name)) {
                throw fault(3);
            }
            at++;
            return name;
        }

        int oldName(List<String> names) throws Fault {
            String name = name();
            if (!names.contains(name)) {
                throw fault(2);
            }
            at++;
            return names.indexOf(name);
        }

        int kind() throws Fault {
            if (!KINDS.contains(peek())) {
                throw fault(1);
            }
            return KINDS.indexOf(tokens.get(at++));
        }

        int number(int least, int most) throws Fault {
            if (!isNumber()) {
                throw fault(1);
            }
            int n = Integer.parseInt(peek());
            if (n < least || n > most) {
                throw fault(4);
            }
            at++;
            return n;
        }

        Told readQueue() throws Fault {
            Told t = new Told();
            while (at < tokens.size()) {
                switch (peek()) {
                    case "heap": {
                        if (t.heaps.size() == 3) {
                            throw fault(5);
                        }
                        at++;
                        t.heaps.add(newName(t));
                        break;
                    }
                    case "shelf": {
                        if (t.shelves.size() == 2) {
                            throw fault(5);
                        }
                        at++;
                        t.shelves.add(newName(t));
                        t.shelfKind.add(kind());
                        break;
                    }
                    case "item": {
                        if (t.items.size() == 20) {
                            throw fault(5);
                        }
                        at++;
                        t.items.add(newName(t));
                        int kind = kind();
                        int upper = number(0, 999);
                        expect("over");
                        int lower = number(1, 99);
                        expect("in");
                        t.itemHeap.add(oldName(t.heaps));
                        t.itemKind.add(kind);
                        t.key.add(key(kind, (float) ((double) upper / lower)));
                        break;
                    }
                    case "share": {
                        if (t.share != null) {
                            throw fault(3);
                        }
                        at++;
                        t.share = number(0, 6);
                        break;
                    }
                    case "grows": {
                        if (t.law != null) {
                            throw fault(3);
                        }
                        at++;
                        t.law = e(0);
                        break;
                    }
                    default:
                        throw fault(1);
                }
                expect(";");
            }
            return t;
        }

        List<Line> readWork() throws Fault {
            List<Line> work = new ArrayList<>();
            while (at < tokens.size()) {
                Line line = new Line();
                line.word = peek();
                if (!List.of("put", "take", "meld", "shelve").contains(line.word)) {
                    throw fault(1);
                }
                if (work.size() == 30) {
                    throw fault(5);
                }
                at++;
                switch (line.word) {
                    case "put":
                        line.first = oldName(told.items);
                        line.second = oldName(told.heaps);
                        break;
                    case "take":
                        line.first = oldName(told.heaps);
                        break;
                    case "meld":
                        line.first = oldName(told.heaps);
                        line.second = oldName(told.heaps);
                        if (line.first == line.second) {
                            at--;
                            throw fault(3);
                        }
                        break;
                    default:
                        line.first = oldName(told.heaps);
                        line.second = oldName(told.shelves);
                        break;
                }
                expect(";");
                work.add(line);
            }
            return work;
        }

        // E by descent, a method for each line of the document's grammar

        Law e(int within) throws Fault {
            Law left = test(within);
            while (peek().equals("and") || peek().equals("or")) {
                boolean and = tokens.get(at++).equals("and");
                Law a = left;
                Law b = test(within);
                left = (r, t, s, n) -> {
                    boolean x = a.of(r, t, s, n) != 0;
                    boolean y = b.of(r, t, s, n) != 0;
                    return (and ? x && y : x || y) ? 1 : 0;
                };
            }
            return left;
        }

        Law test(int within) throws Fault {
            Law a = sum(within);
            if (peek().equals("<") || peek().equals("=")) {
                boolean less = tokens.get(at++).equals("<");
                Law b = sum(within);
                return (r, t, s, n) -> {
                    int x = a.of(r, t, s, n);
                    int y = b.of(r, t, s, n);
                    return (less ? x < y : x == y) ? 1 : 0;
                };
            }
            return a;
        }

        Law sum(int within) throws Fault {
            Law left = product(within);
            while (peek().equals("+") || peek().equals("-")) {
                boolean plus = tokens.get(at++).equals("+");
                Law a = left;
                Law b = product(within);
                left = (r, t, s, n) -> plus ? a.of(r, t, s, n) + b.of(r, t, s, n)
                    : a.of(r, t, s, n) - b.of(r, t, s, n);
            }
            return left;
        }

        Law product(int within) throws Fault {
            Law left = part(within);
            while (peek().equals("*")) {
                at++;
                Law a = left;
                Law b = part(within);
                left = (r, t, s, n) -> a.of(r, t, s, n) * b.of(r, t, s, n);
            }
            return left;
        }

        Law part(int within) throws Fault {
            String token = peek();
            boolean fact = List.of("rank", "target", "share", "all").contains(token);
            if (!isNumber() && !fact && !token.equals("not") && !token.equals("(")) {
                throw fault(1);
            }
            if (within == 5) {
                throw fault(5);
            }
            at++;
            if (token.equals("not")) {
                Law a = part(within + 1);
                return (r, t, s, n) -> a.of(r, t, s, n) == 0 ? 1 : 0;
            }
            if (token.equals("(")) {
                Law a = e(within + 1);
                expect(")");
                return a;
            }
            if (fact) {
                return (r, t, s, n) -> token.equals("rank") ? r : token.equals("target") ? t
                    : token.equals("share") ? s : n;
            }
            int number = Integer.parseInt(token);
            return (r, t, s, n) -> number;
        }
    }

    /** SINGLE by way of double: what comes of two SINGLE numbers is rounded the same way by either road. */
    private static float key(int kind, float quotient) {
        double q = quotient;
        switch (kind) {
            case 1:
                return (float) (q * 0.5);
            case 2:
                return (float) (q + (double) 0.1f);
            case 3:
                return (float) (1.0 / (double) (float) (q + 1.0));
            default:
                return quotient;
        }
    }

    private String tapeTaken() {
        String text = tape.toString();
        tape.setLength(0);
        return text;
    }

    // ---- the face ----

    public int feed(long a, long b, long c) {
        for (long bytes : new long[] {a, b, c}) {
            for (int i = 0; i < 8; i++) {
                char sign = (char) (bytes >>> 56 - 8 * i & 0xff);
                if ((sign == '\n' || sign >= ' ' && sign <= '~') && tape.length() < 1000) {
                    tape.append(sign);
                }
            }
        }
        return tape.length();
    }

    public int queue() {
        try {
            told = new Parser(tapeTaken()).readQueue();
        } catch (Fault f) {
            return f.code;
        }
        now = asTold();
        lines = new ArrayList<>();
        seen = new ArrayList<>();
        past = new ArrayDeque<>();
        marks = new HashMap<>();
        shut = 0;
        return 0;
    }

    public int work() {
        try {
            lines = new Parser(tapeTaken()).readWork();
        } catch (Fault f) {
            return f.code;
        }
        return 0;
    }

    private boolean isHeap(int heap) {
        return heap >= 0 && heap < told.heaps.size();
    }

    private boolean isItem(int item) {
        return item >= 0 && item < told.items.size();
    }

    private boolean isShelf(int shelf) {
        return shelf >= 0 && shelf < told.shelves.size();
    }

    private boolean shuts(int heap) {
        shut += isHeap(heap) ? 1 : 0;
        return isHeap(heap);
    }

    public int item(int item, int what) {
        if (!isItem(item) || what < 0 || what > 4) {
            return -2;
        }
        return new int[] {told.itemKind.get(item), now.heapOf(item), now.shelfOf(item)[0], now.shelfOf(item)[1],
            now.raised(item) ? 1 : 0}[what];
    }

    public int heap(int heap, int what) {
        if (!isHeap(heap) || what < 0 || what > 3) {
            return -2;
        }
        TreeMap<Integer, Node> trees = now.heaps.get(heap);
        int raised = (int) now.items(heap).stream().filter(now::raised).count();
        return new int[] {now.items(heap).size(), trees.size(), raised, trees.isEmpty() ? -1 : trees.lastKey()}[what];
    }

    private Node root(int heap, int i) {
        if (!isHeap(heap) || i < 0 || i >= now.heaps.get(heap).size()) {
            return null;
        }
        return new ArrayList<>(now.heaps.get(heap).values()).get(i);
    }

    public int tree(int heap, int i, int what) {
        Node root = root(heap, i);
        if (root == null || what < 0 || what > 4) {
            return -1;
        }
        return new int[] {root.rank, root.target, root.list.size(), Float.floatToIntBits(root.ckey),
            root.all().size()}[what];
    }

    public int listed(int heap, int tree, int i) {
        Node root = root(heap, tree);
        return root == null || i < 0 || i >= root.list.size() ? -1 : root.list.get(i);
    }

    public int shelf(int shelf) {
        if (!isShelf(shelf)) {
            return -1;
        }
        int many = 0;
        for (Integer item : now.shelves[shelf]) {
            many += item == null ? 0 : 1;
        }
        return many;
    }

    private void remember(State before) {
        past.addLast(before);
        if (past.size() > 8) {
            past.removeFirst();
        }
    }

    public boolean put(int item, int heap) {
        State before = now.copy();
        if (!isItem(item) || !isHeap(heap) || !now.put(item, heap)) {
            return false;
        }
        remember(before);
        return true;
    }

    public int take(int heap) {
        State before = now.copy();
        int item = isHeap(heap) ? now.take(heap) : -1;
        if (item >= 0) {
            remember(before);
        }
        return item;
    }

    public boolean meld(int heap, int into) {
        State before = now.copy();
        if (!isHeap(heap) || !isHeap(into) || !now.meld(heap, into)) {
            return false;
        }
        remember(before);
        return true;
    }

    public int shelve(int heap, int shelf) {
        State before = now.copy();
        int how = isHeap(heap) && isShelf(shelf) ? now.shelve(heap, shelf) : -1;
        if (how >= 0) {
            remember(before);
        }
        return how;
    }

    public boolean undo() {
        if (past.isEmpty()) {
            return false;
        }
        now = past.removeLast();
        return true;
    }

    public int judged(int what) {
        if (what < 0 || what > 2) {
            return -2;
        }
        State s = asTold();
        int wrong = -1;
        for (int i = 0; i < lines.size(); i++) {
            Line line = lines.get(i);
            boolean could;
            switch (line.word) {
                case "put":
                    could = s.put(line.first, line.second);
                    break;
                case "take":
                    could = s.take(line.first) >= 0;
                    break;
                case "meld":
                    could = s.meld(line.first, line.second);
                    break;
                default:
                    could = s.shelve(line.first, line.second) >= 0;
                    break;
            }
            wrong = wrong < 0 && !could ? i : wrong;
        }
        return new int[] {wrong, s.floor(), s.raised()}[what];
    }

    public int first(int heap) {
        if (!shuts(heap) || now.order(heap).isEmpty()) {
            return -1;
        }
        return now.order(heap).get(0);
    }

    public int comes(int heap, int i) {
        if (!shuts(heap) || i < 0 || i >= now.order(heap).size()) {
            throw new NoSuchElementException();
        }
        return now.order(heap).get(i);
    }

    private List<Integer> byKeys(int heap) {
        List<Integer> items = now.items(heap);
        items.sort(told.byKeys());
        return items;
    }

    public int away(int heap, int item) {
        if (!shuts(heap) || !now.items(heap).contains(item)) {
            throw new NoSuchElementException();
        }
        return now.order(heap).indexOf(item) - byKeys(heap).indexOf(item);
    }

    public int wrongs(int heap) {
        if (!shuts(heap)) {
            return -1;
        }
        List<Integer> order = now.order(heap);
        int pairs = 0;
        for (int a = 0; a < order.size(); a++) {
            for (int b = a + 1; b < order.size(); b++) {
                pairs += told.key.get(order.get(b)) < told.key.get(order.get(a)) ? 1 : 0;
            }
        }
        return pairs;
    }

    public int far(int heap) {
        if (!shuts(heap)) {
            return -1;
        }
        List<Integer> order = now.order(heap);
        List<Integer> sorted = byKeys(heap);
        int most = 0;
        for (int item : order) {
            most = Math.max(most, Math.abs(order.indexOf(item) - sorted.indexOf(item)));
        }
        return most;
    }

    public int select(int heap, int i) {
        return !isHeap(heap) || i < 0 || i >= now.items(heap).size() ? -1 : byKeys(heap).get(i);
    }

    public int split(int heap, int what) {
        if (!shuts(heap) || what < 0 || what > 1 || now.items(heap).isEmpty()) {
            return -1;
        }
        int item = now.split(heap);
        return what == 0 ? item : byKeys(heap).indexOf(item);
    }

    public int steps(int heap, int i) {
        if (!shuts(heap) || i < 0 || i >= now.items(heap).size()) {
            return -1;
        }
        List<Integer> some = byKeys(heap);
        int place = i;
        int steps = 0;
        while (true) {
            State s = fresh();
            List<Integer> numbers = new ArrayList<>(some);
            numbers.sort(Comparator.naturalOrder());
            numbers.forEach(item -> s.put(item, 0));
            steps++;
            int cut = some.indexOf(s.split(0));
            if (cut == place) {
                return steps;
            }
            some = place < cut ? some.subList(0, cut) : some.subList(cut + 1, some.size());
            place = place < cut ? place : place - cut - 1;
        }
    }

    private float sum(int heap) {
        float sum = 0;
        for (int item : now.order(heap)) {
            sum = (float) ((double) sum + (double) told.key.get(item));
        }
        return sum;
    }

    public int worth(int heap) {
        return shuts(heap) ? Float.floatToIntBits(sum(heap)) : -1;
    }

    public int mean(int heap) {
        if (!shuts(heap)) {
            return -1;
        }
        int many = now.items(heap).size();
        return many == 0 ? 0 : Float.floatToIntBits((float) ((double) sum(heap) / many));
    }

    public int bits(int item) {
        return isItem(item) ? Float.floatToIntBits(told.key.get(item)) : -1;
    }

    public int thousand(int item) {
        return isItem(item) ? (int) (float) ((double) told.key.get(item) * 1000.0) : -1;
    }

    public int lift(int item) {
        Node node = isItem(item) ? now.nodeOf(item) : null;
        return node == null ? -1 : Float.floatToIntBits((float) ((double) node.ckey - (double) told.key.get(item)));
    }

    public boolean bound(int heap) {
        return isHeap(heap) && heap(heap, 2) <= now.items(heap).size() / (1 << told.shareAtLast());
    }

    private static int depthOf(Node node, int item) {
        if (node == null) {
            return -1;
        }
        if (node.list.contains(item)) {
            return 0;
        }
        int below = Math.max(depthOf(node.first, item), depthOf(node.second, item));
        return below < 0 ? -1 : below + 1;
    }

    public int depth(int item) {
        int depth = -1;
        for (int h = 0; isItem(item) && h < now.heaps.size(); h++) {
            for (Node root : now.heaps.get(h).values()) {
                depth = Math.max(depth, depthOf(root, item));
            }
        }
        return depth;
    }

    public boolean see(int i, int kind, boolean is) {
        if (i < 0 || i > 9 || kind < 0 || kind > 3 || seen.size() == 8) {
            return false;
        }
        seen.add(new int[] {i, kind, is ? 1 : 0});
        return true;
    }

    private boolean gives(int heap, int i, int kind) {
        List<Integer> order = now.order(heap);
        return i < order.size() && told.itemKind.get(order.get(i)) == kind;
    }

    private int whoNow() {
        int bits = 0;
        for (int h = 0; h < told.heaps.size(); h++) {
            int heap = h;
            if (seen.stream().allMatch(s -> gives(heap, s[0], s[1]) == (s[2] == 1))) {
                bits += 1 << h;
            }
        }
        return bits;
    }

    public int who() {
        shut++;
        return whoNow();
    }

    public int ask() {
        shut++;
        List<Integer> heaps = new ArrayList<>();
        for (int h = 0; h < 3; h++) {
            if ((whoNow() & 1 << h) != 0) {
                heaps.add(h);
            }
        }
        int best = -1;
        int least = heaps.size();
        for (int i = 0; i < 10; i++) {
            for (int kind = 0; kind < 4; kind++) {
                int would = 0;
                for (int h : heaps) {
                    would += gives(h, i, kind) ? 1 : 0;
                }
                if (Math.max(would, heaps.size() - would) < least) {
                    least = Math.max(would, heaps.size() - would);
                    best = 4 * i + kind;
                }
            }
        }
        return best;
    }

    private long g;

    private int draw(int m) {
        g = Math.floorMod(g * 1103515245L + 12345L, 2147483648L);
        return (int) (g / 65536 % m);
    }

    public int days(int seed, int many, int what) {
        if (seed < 0 || seed > 9999 || many < 1 || many > 99 || what < 0 || what > 2) {
            return -1;
        }
        shut++;
        State s = now.copy();
        g = seed;
        int could = 0;
        for (int day = 0; day < many && !told.heaps.isEmpty() && !told.items.isEmpty(); day++) {
            int heap = draw(told.heaps.size());
            int item = draw(told.items.size());
            switch (draw(4)) {
                case 0:
                case 1:
                    could += s.put(item, heap) ? 1 : 0;
                    break;
                case 2:
                    could += s.take(heap) >= 0 ? 1 : 0;
                    break;
                default:
                    could += s.meld(heap, (heap + 1) % told.heaps.size()) ? 1 : 0;
                    break;
            }
        }
        return new int[] {could, s.raised(), s.floor()}[what];
    }

    public boolean mark(int mark, boolean back) {
        if (mark < 0 || mark > 1 || back && !marks.containsKey(mark)) {
            return false;
        }
        if (back) {
            now = marks.get(mark).state.copy();
            seen = new ArrayList<>(marks.get(mark).seen);
            past.clear();
        } else {
            Mark m = new Mark();
            m.state = now.copy();
            m.seen = new ArrayList<>(seen);
            marks.put(mark, m);
        }
        return true;
    }

    public int count(int what) {
        if (what < 0 || what > 10) {
            return -1;
        }
        return new int[] {told.heaps.size(), told.shelves.size(), told.items.size(), told.shareAtLast(), now.floor(),
            now.raised(), shut, lines.size(), seen.size(), past.size(), tape.length()}[what];
    }
}
