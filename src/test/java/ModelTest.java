import java.lang.reflect.Method;
import java.util.ArrayList;
import java.util.HashMap;
import java.util.List;
import java.util.Map;
import java.util.Random;

/** Runs of calls by fixed seeds, on the class and on PlainModel: each answer is to be the same. */
public final class ModelTest {
    private static final int RUNS = 500;
    private static final int MOST_CALLS = 512;
    private static final int[] EDGES = {Integer.MIN_VALUE, -2, -1, 0, 1, 2, 3, 5, 6, 7, 11, 12, 13, 20, 21, 39, 40, 41,
        59, 60, 61, 95, 96, 1000, Integer.MAX_VALUE - 1, Integer.MAX_VALUE};

    /** Each answer below 0 that the document names. */
    private static final String[] REFUSALS = {"row -1", "row -3", "lay -1", "lay -3", "at -1", "at -3", "tear -1",
        "tear -3", "copy -1", "copy -3", "mean -1", "mean -3", "text -1", "text -3", "put -1", "put -3", "fault -1",
        "fault -3", "fault -9", "screen -1", "screen -3", "screen -4", "pane -1", "mark -1", "mark -3", "covers -1",
        "raise -1", "raise -2", "raise -4", "sink -1", "sink -2", "sink -4", "move -1", "move -2", "move -4",
        "shut -1", "shut -2", "undo -1", "keep -1", "keep -4", "on -1", "on -3", "seen -1", "seen -9", "both -1",
        "free -1", "free -4", "shift -1", "shift -4", "order -1", "order -4", "kinds -1", "kinds -3", "places -1",
        "places -3", "places -9", "test -1", "test -3", "test -9", "duel -1", "odds -1", "odds -4", "mid -1",
        "mid -4", "lots -1", "lots -2", "lots -4", "count -1", "findings -1"};

    private final Checks checks = new Checks("ModelTest");
    private final Map<String, Method> ours = methodsOf(PaneOrder.class);
    private final Map<String, Method> theirs = methodsOf(PlainModel.class);
    private final List<String> names = new ArrayList<>(new java.util.TreeSet<>(ours.keySet()));
    /** How often each call answered each of what it can: done, or a refusal by its number. */
    private final Map<String, Integer> met = new HashMap<>();
    private Random random;
    private PaneOrder x;
    private PlainModel y;
    private int calls;
    private StringBuilder told;

    public static void main(String[] args) throws Exception {
        new ModelTest().all();
    }

    private static Map<String, Method> methodsOf(Class<?> c) {
        Map<String, Method> all = new HashMap<>();
        for (Method m : c.getDeclaredMethods()) {
            if (java.lang.reflect.Modifier.isPublic(m.getModifiers())) {
                all.put(m.getName(), m);
            }
        }
        return all;
    }

    private void all() throws Exception {
        checks.holds("the same methods", ours.keySet().equals(theirs.keySet()));
        for (int run = 0; run < RUNS && checks.wrong() == 0; run++) {
            one(run);
        }
        for (String name : names) {
            checks.holds(name + " was done often", met.getOrDefault(name + " done", 0) >= 40);
        }
        for (String refusal : REFUSALS) {
            checks.holds(refusal + " was answered at times", met.getOrDefault(refusal, 0) >= 4);
        }
        checks.end();
    }

    private void one(int run) throws Exception {
        random = new Random(run);
        x = new PaneOrder();
        y = new PlainModel();
        calls = 0;
        told = new StringBuilder("run ").append(run);
        int wide = random.nextInt(8);
        while (calls < MOST_CALLS - 80 && checks.wrong() == 0) {
            step(wide);
        }
    }

    private void step(int wide) throws Exception {
        int way = random.nextInt(100);
        if (way < 3 || (y.now.boxes.isEmpty() && way >= 60)) {
            writeText();
        } else if (way < 10 && !y.now.boxes.isEmpty()) {
            writeSights();
        } else if (way < 20) {
            same("lots", 1 + random.nextInt(way < 15 ? 20 : 3), 1 + random.nextInt(2147483646));
        } else if (way < 23) {
            writeRows();
        } else if (way < 26) {
            goAwayAndBack(random.nextInt(3));
        } else if (way < 40) {
            String[] deeds = {"raise", "sink", "move", "shut"};
            any(deeds[random.nextInt(4)], wide);
        } else {
            any(names.get(random.nextInt(names.size())), wide);
        }
        same("digest");
        same("asked");
        same("finding");
    }

    /** A TEXT and a SCREEN by it, at times with a slip. */
    private void writeText() throws Exception {
        StringBuilder s = new StringBuilder();
        int panes = 2 + random.nextInt(random.nextInt(8) == 0 ? 7 : 6);
        for (int i = 0; i < panes; i++) {
            for (int k = random.nextInt(3); k > 0; k--) {
                s.append(' ');
            }
            int left = random.nextInt(10);
            int top = random.nextInt(8);
            s.append("pfgthm".charAt(random.nextInt(6))).append(left).append(top);
            s.append(1 + random.nextInt(Math.min(9, 12 - left))).append(1 + random.nextInt(8 - top));
        }
        if (random.nextInt(3) == 0) {
            s.setCharAt(random.nextInt(s.length()), " 0123456789pfgthmx".charAt(random.nextInt(18)));
        }
        int size = Math.min(60, s.length() - (random.nextInt(6) == 0 ? random.nextInt(s.length()) : 0));
        int t = random.nextInt(4);
        same("text", t, size);
        for (int i = 0; i < size; i++) {
            if (s.charAt(i) != ' ') {
                same("put", t, i, s.charAt(i));
            }
        }
        same("fault", t);
        same("screen", t);
    }

    /** Two ROWS with ints, perhaps one and the same, and places that go from one to the other. */
    private void writeRows() throws Exception {
        int r = random.nextInt(6);
        int to = random.nextInt(6);
        int size = random.nextInt(9);
        same("row", r, size);
        same("row", to, size);
        for (int i = 0; i < size; i++) {
            same("lay", random.nextBoolean() ? r : to, i, random.nextInt() >> random.nextInt(32));
        }
        int n = random.nextInt(size + 2) - 1;
        same("copy", r, random.nextInt(size - Math.max(n, 0) + 1), to, random.nextInt(size + 1), n);
        same("mean", r);
        same("mean", to);
    }

    /** Pairs that mostly agree with what is SEEN, and what follows from them. */
    private void writeSights() throws Exception {
        int r = random.nextInt(6);
        int i = random.nextInt(y.now.boxes.size());
        int pairs = random.nextInt(5);
        PlainModel.State s = y.now.same();
        if (random.nextBoolean()) {
            s.boxes.get(i).kind = random.nextInt(6);
        }
        int[] seen = s.picture();
        same("row", r, 2 * pairs);
        for (int k = 0; k < pairs; k++) {
            int c = random.nextInt(96);
            same("lay", r, 2 * k, c);
            same("lay", r, 2 * k + 1, random.nextInt(12) == 0 ? random.nextInt(10) - 2 : seen[c]);
        }
        same("kinds", i, r);
        same("places", i, r);
        same("asked");
        same("test", i, r);
    }

    /** A SCREEN kept, other DEEDS by the same numbers, then the kept one, and its DEEDS undone. */
    private void goAwayAndBack(int k) throws Exception {
        same("keep", k);
        same("undo", random.nextInt(y.past.size() + 1));
        same("lots", 1 + random.nextInt(10), 1 + random.nextInt(2147483646));
        same("on", k);
        if (random.nextBoolean()) {
            same("undo", random.nextInt(y.past.size() + 1));
        }
    }

    private void any(String name, int wide) throws Exception {
        int[] a = new int[ours.get(name).getParameterCount()];
        for (int k = 0; k < a.length; k++) {
            a[k] = argument(name, k, wide);
        }
        same(name, a);
    }

    private int argument(String name, int k, int wide) {
        if (random.nextInt(12) < wide / 4) {
            return EDGES[random.nextInt(EDGES.length)];
        }
        int panes = Math.max(1, y.now.boxes.size());
        switch (name + k) {
            case "move1", "move2":
                return random.nextInt(8) - 4;
            case "seen0", "covers1":
                return random.nextInt(97);
            case "count0":
                return random.nextInt(12);
            case "undo0":
                return random.nextInt(8) == 0 ? random.nextInt(42) : Math.max(0, y.past.size() - random.nextInt(4));
            case "pane1", "findings0", "mark1":
                return random.nextInt(9);
            case "odds1", "mid1":
                return random.nextInt(14);
            case "duel1":
                return random.nextInt(40) == 0 ? 4 : random.nextInt(4);
            case "row1", "copy1", "copy3", "copy4", "at1", "lay1":
                return random.nextInt(10) - 1;
            case "lay2", "put2":
                return random.nextInt() >> random.nextInt(32);
            case "text1", "put1":
                return random.nextInt(62);
            case "row0", "lay0", "at0", "tear0", "copy0", "copy2", "mean0", "order0", "kinds1", "places1", "test1":
                return random.nextInt(6);
            case "text0", "put0", "fault0", "screen0", "keep0", "on0":
                return random.nextInt(4);
            default:
                return random.nextInt(panes + (random.nextInt(10) == 0 ? 1 : 0));
        }
    }

    private void same(String name, int... a) throws Exception {
        Object[] given = new Object[a.length];
        for (int k = 0; k < a.length; k++) {
            given[k] = a[k];
        }
        long got = ((Number) ours.get(name).invoke(x, given)).longValue();
        long due = ((Number) theirs.get(name).invoke(y, given)).longValue();
        calls++;
        String call = name + java.util.Arrays.toString(a);
        told.append("\n  ").append(call).append(" ").append(due);
        boolean refused = due < 0 && due >= -9 && !name.equals("asked");
        met.merge(name + (refused ? " " + due : " done"), 1, Integer::sum);
        if (got != due) {
            System.out.println(told);
        }
        checks.due(call, got, due);
        if (name.equals("odds") || name.equals("mid")) {
            same("upper");
            same("lower");
        }
    }
}
