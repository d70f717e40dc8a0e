import java.lang.reflect.InvocationTargetException;
import java.lang.reflect.Method;
import java.util.ArrayList;
import java.util.Arrays;
import java.util.List;
import java.util.Map;
import java.util.Random;
import java.util.TreeMap;

/** Runs of calls drawn by seed, each answered by RaisedQueue and by Model, which must not differ. */
public final class ModelTest {
    private static final int RUNS = 1500;
    private static final int CALLS = 512;
    private static final String[] NAMES = {"a", "b", "c", "d", "e", "f", "g", "h", "i", "j", "k", "l", "m", "n", "o",
        "p", "q", "r", "s", "t", "u", "v", "w", "x", "y", "z", "rank", "target", "all", "abcdefgh"};
    private static final String[] KINDS = {"plain", "urgent", "late", "odd"};
    private static final String[] TOKENS = {"heap", "shelf", "item", "over", "in", "share", "grows", "put", "take",
        "meld", "shelve", "plain", "urgent", "late", "odd", "not", "and", "or", "rank", "all", "a", "b", "zz",
        "abcdefghi", "0", "1", "6", "7", "99", "100", "999", "1000", "10000", "0001", ";", "(", ")", "<", "=", "+", "-",
        "*", "/", ">", "A", "a1", "1a", ",", "\"", "~"};
    private static final String[] LAWS = {"target + all", "target + 9 - all", "all - target", "target * rank + all",
        "( all < 5 ) * 7 + target", "2", "3", "rank + 1", "all", "share * rank + 1", "5 - rank", "target + 1"};
    private static final int[] ODD_NUMBERS = {-1, -2, 20, 21, 99, 100, 9999, 10000, Integer.MIN_VALUE,
        Integer.MAX_VALUE};

    private final Random random;
    private final List<String> log = new ArrayList<>();
    private final Map<String, Method> real = new TreeMap<>();
    private final Map<String, Method> model = new TreeMap<>();
    private RaisedQueue x = new RaisedQueue();
    private Model y = new Model();
    private int calls = 0;
    private boolean same = true;
    private int heaps = 3;
    private int items = 20;

    private ModelTest(long seed) {
        random = new Random(seed);
        for (Method m : RaisedQueue.class.getDeclaredMethods()) {
            if (java.lang.reflect.Modifier.isPublic(m.getModifiers())) {
                real.put(m.getName(), m);
            }
        }
        for (Method m : Model.class.getDeclaredMethods()) {
            model.put(m.getName() + Arrays.toString(m.getParameterTypes()), m);
        }
    }

    public static void main(String[] args) {
        for (int run = 0; run < RUNS; run++) {
            ModelTest test = new ModelTest(run);
            test.run(run);
            Check.same("run of seed " + run, test.same, true);
        }
        Check.end("ModelTest");
    }

    private void run(int seed) {
        if (random.nextInt(4) == 0) {
            for (int i = random.nextInt(20); i > 0; i--) {
                callAny();
            }
        }
        write(join(queueTokens()));
        call("queue");
        look();
        int style = random.nextInt(4);
        while (calls < CALLS && same) {
            int draw = random.nextInt(200);
            if (draw == 0) {
                List<String> tokens = queueTokens();
                spoil(tokens, random.nextInt(3));
                write(join(tokens));
                call("queue");
            } else if (draw < 8) {
                List<String> tokens = workTokens();
                spoil(tokens, random.nextInt(4) == 0 ? 1 : 0);
                write(join(tokens));
                call("work");
                call("judged", 0);
                call("judged", 1);
                call("judged", 2);
            } else if (draw < 12) {
                write(join(random.nextBoolean() ? queueTokens() : workTokens()));
                call(random.nextBoolean() ? "queue" : "work");
            } else if (draw < 20) {
                look();
            } else if (draw < 120 && style == 0) {
                call("take", heapNumber());
                call("put", itemNumber(), heapNumber());
            } else if (draw < 120 && style == 1) {
                call(random.nextInt(3) > 0 ? "meld" : "take",
                    random.nextBoolean() ? new Object[] {heapNumber(), heapNumber()} : new Object[] {heapNumber()});
            } else if (draw < 120 && style == 2) {
                seeAndMark();
            } else {
                callAny();
            }
        }
    }

    private void seeAndMark() {
        switch (random.nextInt(6)) {
            case 0:
                call("see", random.nextInt(3), random.nextInt(4), random.nextInt(4) == 0);
                break;
            case 1:
            case 2:
                call("mark", small(2), random.nextInt(3) > 0);
                call("who");
                break;
            case 3:
                call("ask");
                break;
            case 4:
                call("take", heapNumber());
                break;
            default:
                call("undo");
                break;
        }
    }

    // ---- texts ----

    private List<String> queueTokens() {
        List<String> names = new ArrayList<>(Arrays.asList(NAMES));
        java.util.Collections.shuffle(names, random);
        List<List<String>> lines = new ArrayList<>();
        List<String> toldHeaps = new ArrayList<>();
        heaps = 1 + random.nextInt(3);
        items = random.nextInt(5) == 0 ? random.nextInt(4) : 4 + random.nextInt(17);
        for (int i = 0; i < heaps; i++) {
            String name = names.remove(0);
            toldHeaps.add(name);
            lines.add(Arrays.asList("heap", name, ";"));
        }
        for (int i = random.nextInt(3); i > 0; i--) {
            lines.add(Arrays.asList("shelf", names.remove(0), pick(KINDS), ";"));
        }
        int spread = new int[] {3, 12, 1000}[random.nextInt(3)];
        int lowest = random.nextInt(3) == 0 ? 99 : 1;
        for (int i = 0; i < items; i++) {
            String home = toldHeaps.get(random.nextInt(random.nextInt(3) == 0 ? 1 : toldHeaps.size()));
            lines.add(Arrays.asList("item", names.remove(0), pick(KINDS), "" + random.nextInt(spread), "over",
                "" + (1 + random.nextInt(lowest)), "in", home, ";"));
        }
        if (random.nextInt(3) > 0) {
            lines.add(random.nextInt(lines.size() + 1),
                Arrays.asList("share", "" + random.nextInt(random.nextInt(2) == 0 ? 2 : 7), ";"));
        }
        if (random.nextInt(2) == 0) {
            List<String> law = new ArrayList<>(List.of("grows"));
            if (random.nextInt(3) == 0) {
                law.addAll(Arrays.asList(pick(LAWS).split(" ")));
            } else {
                e(law, 0, 0);
            }
            law.add(";");
            lines.add(random.nextInt(lines.size() + 1), law);
        }
        List<String> tokens = new ArrayList<>();
        lines.forEach(tokens::addAll);
        return tokens;
    }

    private List<String> workTokens() {
        List<String> tokens = new ArrayList<>();
        List<String> known = Arrays.asList(NAMES);
        for (int i = random.nextInt(random.nextInt(6) == 0 ? 32 : 8); i > 0; i--) {
            tokens.add(pick(new String[] {"put", "take", "meld", "shelve"}));
            tokens.add(guess(tokens.get(tokens.size() - 1).equals("put"), known));
            if (!tokens.get(tokens.size() - 2).equals("take")) {
                tokens.add(guess(false, known));
            }
            tokens.add(";");
        }
        return tokens;
    }

    /** Mostly a NAME that was told, as the log of what was fed tells. */
    private String guess(boolean item, List<String> known) {
        List<String> told = new ArrayList<>();
        String[] words = toldText.split("[ \n;]+");
        for (int i = 0; i + 1 < words.length; i++) {
            if (words[i].equals(item ? "item" : "heap") || !item && words[i].equals("shelf")
                && random.nextInt(3) == 0) {
                told.add(words[i + 1]);
            }
        }
        return told.isEmpty() || random.nextInt(60) == 0 ? known.get(random.nextInt(known.size()))
            : told.get(random.nextInt(told.size()));
    }

    private String toldText = "";

    private void e(List<String> tokens, int within, int size) {
        test(tokens, within, size);
        while (random.nextInt(4) == 0) {
            tokens.add(random.nextBoolean() ? "and" : "or");
            test(tokens, within, size + 1);
        }
    }

    private void test(List<String> tokens, int within, int size) {
        sum(tokens, within, size);
        if (random.nextInt(4) == 0) {
            tokens.add(random.nextBoolean() ? "<" : "=");
            sum(tokens, within, size);
        }
    }

    private void sum(List<String> tokens, int within, int size) {
        part(tokens, within, size);
        while (random.nextInt(5) < 2) {
            tokens.add(pick(new String[] {"+", "-", "*"}));
            part(tokens, within, size + 1);
        }
    }

    private void part(List<String> tokens, int within, int size) {
        int draw = random.nextInt(12);
        int most = random.nextInt(40) == 0 ? 6 : 4;
        if (draw < 2 && within < most) {
            tokens.add("not");
            part(tokens, within + 1, size);
        } else if (draw < 5 && within < most && size < 6) {
            tokens.add("(");
            e(tokens, within + 1, size + 1);
            tokens.add(")");
        } else if (draw < 8) {
            tokens.add("" + (random.nextInt(10) == 0 ? random.nextInt(10000) : random.nextInt(6)));
        } else {
            tokens.add(pick(new String[] {"rank", "target", "share", "all"}));
        }
    }

    private String pick(String[] row) {
        return row[random.nextInt(row.length)];
    }

    private void spoil(List<String> tokens, int many) {
        for (int i = 0; i < many && !tokens.isEmpty(); i++) {
            int at = random.nextInt(tokens.size());
            switch (random.nextInt(5)) {
                case 0:
                    tokens.remove(at);
                    break;
                case 1:
                    tokens.add(at, pick(TOKENS));
                    break;
                case 2:
                    tokens.set(at, pick(TOKENS));
                    break;
                case 3:
                    tokens.subList(at, tokens.size()).clear();
                    break;
                default:
                    tokens.set(at, tokens.get(random.nextInt(tokens.size())));
                    break;
            }
        }
    }

    private String join(List<String> tokens) {
        StringBuilder text = new StringBuilder();
        boolean tight = random.nextInt(3) == 0;
        String last = "";
        for (String token : tokens) {
            boolean bothLetters = last.matches(".*[a-z]") && token.matches("[a-z].*");
            boolean bothDigits = last.matches(".*[0-9]") && token.matches("[0-9].*");
            boolean glue = tight && !bothLetters && !bothDigits || random.nextInt(400) == 0;
            text.append(glue ? "" : random.nextInt(9) == 0 ? "\n" : random.nextInt(30) == 0 ? "  " : " ").append(token);
            last = token;
        }
        if (random.nextBoolean()) {
            text.append(' ');
        }
        return text.toString();
    }

    private void write(String text) {
        String fed = text;
        if (random.nextInt(4) == 0) {
            int at = random.nextInt(text.length() + 1);
            fed = text.substring(0, at) + new char[] {0, 9, 13, 127, 128, 255, 31}[random.nextInt(7)]
                + text.substring(at);
        }
        if (fed.contains("heap")) {
            toldText = fed;
        }
        for (int i = 0; i < fed.length() && same; i += 24) {
            call("feed", Check.bytes(fed, i), Check.bytes(fed, i + 8), Check.bytes(fed, i + 16));
        }
    }

    // ---- calls ----

    private void look() {
        for (int h = 0; h < heaps; h++) {
            for (int what = 0; what < 4; what++) {
                call("heap", h, what);
            }
            for (int tree = 0; tree < 3; tree++) {
                for (int what = 0; what < 5; what++) {
                    call("tree", h, tree, what);
                }
                call("listed", h, tree, random.nextInt(5));
            }
            call("wrongs", h);
            call("worth", h);
            call("steps", h, random.nextInt(20));
        }
        for (int i = 0; i < items; i++) {
            call("lift", i);
            call("depth", i);
        }
    }

    private void callAny() {
        List<Method> all = new ArrayList<>(real.values());
        Method method = all.get(random.nextInt(all.size()));
        String name = method.getName();
        if (name.equals("queue") && random.nextInt(10) > 0) {
            return;
        }
        switch (name) {
            case "feed":
                call(name, random.nextLong(), random.nextLong(), random.nextInt(3) == 0 ? random.nextLong() : 0L);
                break;
            case "item":
                call(name, itemNumber(), small(5));
                break;
            case "put":
                call(name, itemNumber(), heapNumber());
                break;
            case "away":
                call(name, heapNumber(), itemNumber());
                break;
            case "meld":
                call(name, heapNumber(), heapNumber());
                break;
            case "bits":
            case "thousand":
            case "lift":
            case "depth":
                call(name, itemNumber());
                break;
            case "heap":
            case "split":
            case "shelve":
                call(name, heapNumber(), small(name.equals("heap") ? 4 : 2));
                break;
            case "tree":
                call(name, heapNumber(), small(4), small(5));
                break;
            case "listed":
                call(name, heapNumber(), small(4), small(6));
                break;
            case "comes":
            case "select":
            case "steps":
                call(name, heapNumber(), small(items));
                break;
            case "see":
                call(name, small(10), small(4), random.nextBoolean());
                break;
            case "days":
                call(name, random.nextInt(9) == 0 ? small(9) : random.nextInt(10000),
                    random.nextInt(9) == 0 ? small(9) : 1 + random.nextInt(99), small(3));
                break;
            case "mark":
                call(name, small(2), random.nextBoolean());
                break;
            case "queue":
            case "work":
            case "undo":
            case "who":
            case "ask":
                call(name);
                break;
            default:
                call(name, small(name.equals("count") ? 11 : name.equals("judged") ? 3 : heaps));
                break;
        }
    }

    private int small(int below) {
        return random.nextInt(25) == 0 ? ODD_NUMBERS[random.nextInt(ODD_NUMBERS.length)]
            : random.nextInt(Math.max(1, below) + (random.nextInt(10) == 0 ? 1 : 0));
    }

    private int heapNumber() {
        return small(heaps);
    }

    private int itemNumber() {
        return small(items);
    }

    private void call(String name, Object... args) {
        if (calls >= CALLS || !same) {
            return;
        }
        Method method = real.get(name);
        if (method.getParameterCount() != args.length) {
            args = Arrays.copyOf(args, method.getParameterCount());
            for (int i = 0; i < args.length; i++) {
                args[i] = args[i] == null ? (Object) heapNumber() : args[i];
            }
        }
        calls++;
        String got = answer(method, x, args);
        String due = answer(model.get(name + Arrays.toString(method.getParameterTypes())), y, args);
        log.add(name + Arrays.toString(args) + " " + got);
        if (!got.equals(due)) {
            same = false;
            System.out.println(String.join("\n", log.subList(Math.max(0, log.size() - 60), log.size())));
            System.out.println("the model answers " + due + "; what was fed last as a queue: " + toldText);
        }
    }

    private static String answer(Method method, Object object, Object[] args) {
        try {
            return String.valueOf(method.invoke(object, args));
        } catch (InvocationTargetException e) {
            return "throws." + e.getCause().getClass().getSimpleName();
        } catch (IllegalAccessException e) {
            return "no access";
        }
    }
}
