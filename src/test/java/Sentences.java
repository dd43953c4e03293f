import java.io.IOException;
import java.nio.charset.StandardCharsets;
import java.nio.file.Files;
import java.nio.file.Path;
import java.util.ArrayList;
import java.util.List;
import java.util.Set;
import java.util.TreeSet;

/**
 * The document's sentences, each quoted ahead of the runs that would fail if it were broken; each run
 * has an object of its own. That the words stand in the document, under their promise, is looked at, too.
 */
final class Sentences {
    static final int TERMS = 0;
    private static final int PROMISES = 41;
    private static final int FINDING = -3;
    /** By their numbers. */
    private static final List<String> FINDINGS = List.of("", "NOTHING", "BEYOND", "UNLIKE", "NOUGHT", "SIZE");
    private static final List<String> OTHERS = List.of("BAD", "FULL", "STATE", "NONE");
    private static final int[] OTHERS_NUMBERS = {-1, -2, -4, -9};

    private final Checks checks;
    private final String[] sections = new String[PROMISES + 1];
    private final List<Set<String>> met = new ArrayList<>();
    private int promise = TERMS;
    private String words = "";
    private int runs = 1;

    Sentences(String test) throws IOException {
        checks = new Checks(test);
        String doc = Files.readString(Path.of("../shared/DOC.md"), StandardCharsets.UTF_8);
        int from = 0;
        for (int n = 0; n <= PROMISES; n++) {
            int to = doc.indexOf(n < PROMISES ? "## Promise " + (n + 1) + ":" : "## Not promised");
            checks.holds("the document goes on behind promise " + n, to > from);
            sections[n] = doc.substring(from, Math.max(from, to));
            from = Math.max(from, to);
            met.add(new TreeSet<>());
        }
    }

    /** What follows is due by these words of a promise, or of what comes ahead of all promises. */
    void sentence(int newPromise, String newWords) {
        checks.holds("there is a run for: " + words, runs > 0);
        promise = newPromise;
        words = newWords;
        runs = 0;
        checks.holds("promise " + promise + " says: " + words, sections[promise].contains(words));
    }

    private String label(String run) {
        runs++;
        return promise + " '" + words + "': " + run;
    }

    /** The last call of a run answers so. */
    void is(String run, long want) {
        checks.due(label(run), new Run(run).answer(), want);
    }

    /** The last call of a run answers so, and tells so by asked(). */
    void told(String run, long want, long asked) {
        Run x = new Run(run);
        checks.due(label(run), x.answer(), want);
        checks.due(label(run) + ", asked()", x.go("asked()"), asked);
    }

    /** The last call of a run answers 1, and tells so by upper(), lower(). */
    void chance(String run, long upper, long lower) {
        Run x = new Run(run);
        checks.due(label(run), x.answer(), 1);
        checks.due(label(run) + ", upper()", x.go("upper()"), upper);
        checks.due(label(run) + ", lower()", x.go("lower()"), lower);
    }

    /** A call answers so and leaves all as it was, but for what it tells. */
    void aside(String before, String call, long want) {
        Run x = new Run(before);
        checks.due(label(before + " " + call), x.go(call), want);
        checks.holds(label(before + " " + call) + " leaves all as it was", x.held().equals(new Run(before).held()));
    }

    /** After one run all is as after another one. */
    void alike(String run, String other) {
        checks.holds(label(run) + " as " + other, new Run(run).held().equals(new Run(other).held()));
    }

    /** A call is refused, or answered NONE, and changes nothing but what tells of findings. */
    void refused(String before, String call, String why) {
        Run x = new Run(before);
        Run twin = new Run(before);
        String label = label(before + " " + call) + " is " + why;
        int f = FINDINGS.indexOf(why);
        checks.due(label, x.go(call), f > 0 ? FINDING : OTHERS_NUMBERS[OTHERS.indexOf(why)]);
        List<Long> found = twin.found();
        if (f > 0) {
            found.set(0, (long) f);
            found.set(f, found.get(f) + 1);
        }
        checks.holds(label + ", findings", x.found().equals(found));
        checks.holds(label + ", asked(), upper(), lower()", x.told().equals(twin.told()));
        checks.holds(label + ", changes nothing", x.held().equals(twin.held()));
        met.get(promise).add(why);
    }

    /** One number of a call, #, is fine from least to most alone; BAD is what lies beyond. */
    void bounds(String before, String call, int least, int most) {
        for (int v : new int[] {least, most}) {
            Run x = new Run(before);
            checks.holds(label(before + " " + call) + " is not BAD for " + v, x.go(call.replace("#", "" + v)) != -1);
        }
        for (int v : new int[] {least - 1, most + 1, Integer.MIN_VALUE, Integer.MAX_VALUE}) {
            refused(before, call.replace("#", "" + v), "BAD");
        }
    }

    /** Each refusal that a promise names was met under it. */
    void end() {
        sentence(TERMS, "");
        for (int n = 1; n <= PROMISES; n++) {
            Set<String> named = new TreeSet<>();
            for (String word : sections[n].split("[^A-Z]+")) {
                if (OTHERS.contains(word) || FINDINGS.indexOf(word) > 0) {
                    named.add(word);
                }
            }
            checks.holds("promise " + n + " names " + named + ", met were " + met.get(n), met.get(n).containsAll(named));
        }
        checks.end();
    }
}
