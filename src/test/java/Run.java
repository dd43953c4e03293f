import java.lang.reflect.InvocationTargetException;
import java.lang.reflect.Method;
import java.lang.reflect.Modifier;
import java.util.ArrayList;
import java.util.HashMap;
import java.util.List;
import java.util.Map;
import java.util.regex.Matcher;
import java.util.regex.Pattern;

/**
 * Calls on a new object, told by a line, such as "[p0022 p1122] {3: 0 -1} 2x shut(0) kinds(1, 3)":
 * 'signs' are put to TEXT 0, [panes] are put there and become the SCREEN, {r: ints} come to a ROW,
 * LEAST and MOST are the least and the greatest int.
 */
final class Run {
    private static final int MOST_CALLS = 512;
    private static final Pattern PART = Pattern.compile("\\[(?<panes>[^\\]]*)\\]|'(?<signs>[^']*)'"
            + "|\\{(?<row>\\d):(?<ints>[^}]*)\\}|(?:(?<times>\\d+)x )?(?<name>[a-z]+)\\((?<given>[^)]*)\\)");
    private static final Map<String, Method> METHODS = new HashMap<>();

    static {
        for (Method m : PaneOrder.class.getDeclaredMethods()) {
            if (Modifier.isPublic(m.getModifiers())) {
                METHODS.put(m.getName(), m);
            }
        }
    }

    private final PaneOrder x = new PaneOrder();
    private final long answer;
    private int calls = 0;

    Run(String told) {
        answer = go(told);
    }

    /** What the last call of the line answered. */
    long answer() {
        return answer;
    }

    /** Goes on; answers what the last call did. */
    long go(String told) {
        long last = 0;
        int end = 0;
        Matcher part = PART.matcher(told);
        while (part.find()) {
            mustBe(told.substring(end, part.start()).isBlank(), told);
            end = part.end();
            if (part.group("panes") != null) {
                write(part.group("panes"));
                last = call("screen", 0);
                mustBe(last > 0, told);
            } else if (part.group("signs") != null) {
                write(part.group("signs"));
            } else if (part.group("row") != null) {
                fill(number(part.group("row")), numbers(part.group("ints")));
            } else {
                int times = part.group("times") == null ? 1 : number(part.group("times"));
                for (int k = 0; k < times; k++) {
                    last = call(part.group("name"), numbers(part.group("given")));
                }
            }
        }
        mustBe(told.substring(end).isBlank(), told);
        return last;
    }

    /** What the latest calls have told. */
    List<Long> told() {
        return List.of(go("asked()"), go("upper()"), go("lower()"));
    }

    /** The latest FINDING, then how often each was answered. */
    List<Long> found() {
        List<Long> all = new ArrayList<>(List.of(go("finding()")));
        for (int f = 1; f <= 5; f++) {
            all.add(call("findings", f));
        }
        return all;
    }

    /** All that is held: as it is, as it was ahead of each DEED, as it was kept. This spends the object. */
    List<Long> held() {
        List<Long> all = new ArrayList<>(List.of(go("digest()")));
        for (int n = (int) go("count(2)") - 1; n >= 0; n--) {
            all.add(call("undo", n));
            all.add(go("digest()"));
        }
        for (int k = 0; k < 3; k++) {
            all.add(call("on", k));
            all.add(go("digest()"));
            all.add(go("undo(0)"));
            all.add(go("digest()"));
        }
        return all;
    }

    private void write(String signs) {
        call("text", 0, signs.length());
        for (int i = 0; i < signs.length(); i++) {
            if (signs.charAt(i) != ' ') {
                call("put", 0, i, signs.charAt(i));
            }
        }
    }

    private void fill(int r, int[] ints) {
        call("row", r, ints.length);
        for (int i = 0; i < ints.length; i++) {
            call("lay", r, i, ints[i]);
        }
    }

    private long call(String name, int... given) {
        Object[] all = new Object[given.length];
        for (int k = 0; k < given.length; k++) {
            all[k] = given[k];
        }
        calls++;
        mustBe(calls <= MOST_CALLS && METHODS.containsKey(name), name);
        try {
            return ((Number) METHODS.get(name).invoke(x, all)).longValue();
        } catch (InvocationTargetException | IllegalAccessException e) {
            throw new IllegalStateException(name + " can't be called so, or threw", e);
        }
    }

    private static int[] numbers(String all) {
        String[] each = all.isBlank() ? new String[0] : all.trim().split("[ ,]+");
        int[] numbers = new int[each.length];
        for (int k = 0; k < each.length; k++) {
            numbers[k] = number(each[k]);
        }
        return numbers;
    }

    private static int number(String s) {
        return s.equals("LEAST") ? Integer.MIN_VALUE : s.equals("MOST") ? Integer.MAX_VALUE : Integer.parseInt(s);
    }

    private static void mustBe(boolean so, String told) {
        if (!so) {
            throw new IllegalStateException("the test itself is wrong: " + told);
        }
    }
}
