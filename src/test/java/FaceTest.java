import java.lang.reflect.Constructor;
import java.lang.reflect.Field;
import java.lang.reflect.Member;
import java.lang.reflect.Method;
import java.lang.reflect.Modifier;
import java.nio.charset.StandardCharsets;
import java.nio.file.Files;
import java.nio.file.Path;
import java.util.Set;
import java.util.TreeSet;
import java.util.regex.Matcher;
import java.util.regex.Pattern;

/** The public face of the document, and the rules of LANGUAGE.md that a look at the source can tell. */
public final class FaceTest {
    private static final Checks CHECKS = new Checks("FaceTest");
    private static final String[] METHODS = {"int row(int,int)", "int lay(int,int,int)", "int at(int,int)",
        "int tear(int)", "int copy(int,int,int,int,int)", "int mean(int)", "int text(int,int)", "int put(int,int,int)",
        "int fault(int)", "int screen(int)", "int pane(int,int)", "int mark(int,int)", "int covers(int,int)",
        "int raise(int)", "int sink(int)", "int move(int,int,int)", "int shut(int)", "int undo(int)", "int keep(int)",
        "int on(int)", "int seen(int)", "int buried()", "int both(int,int)", "int free(int)", "int shift(int)",
        "int order(int)", "int kinds(int,int)", "int places(int,int)", "int test(int,int)", "int duel(int,int)",
        "int odds(int,int)", "int mid(int,int)", "int lots(int,int)", "int asked()", "long upper()", "long lower()",
        "int count(int)", "int finding()", "int findings(int)", "long digest()"};
    private static final String[] CONSTANTS = {"BAD -1", "FULL -2", "FINDING -3", "STATE -4", "SPENT -6", "NONE -9"};
    private static final String[] WORDS_RULED_OUT = {"throw", "throws", "try", "catch", "finally", "synchronized",
        "assert", "package", "new Object", "System.out", "System.err", "System.nano", "System.current", "Random",
        "Thread", "native", "volatile", "transient", "strictfp", "protected", "hashCode", "toString", "HashMap"};

    public static void main(String[] args) throws Exception {
        face();
        classesInside();
        source(code(Files.readString(Path.of("src/main/java/PaneOrder.java"), StandardCharsets.UTF_8)));
        CHECKS.end();
    }

    private static void face() throws Exception {
        CHECKS.holds("public and final", Modifier.isPublic(PaneOrder.class.getModifiers())
                && Modifier.isFinal(PaneOrder.class.getModifiers()));
        Set<String> methods = new TreeSet<>();
        Set<String> names = new TreeSet<>();
        for (Method m : PaneOrder.class.getDeclaredMethods()) {
            if (isShown(m)) {
                String all = m.toGenericString().replaceAll("PaneOrder\\.", "").replaceAll("public (final )?", "");
                methods.add(all);
                names.add(m.getName());
                CHECKS.holds(m + " is public and not static",
                        Modifier.isPublic(m.getModifiers()) && !Modifier.isStatic(m.getModifiers()));
            }
        }
        CHECKS.holds("the methods of the document: " + methods, methods.equals(Set.of(METHODS)));
        for (Class<?> c : PaneOrder.class.getDeclaredClasses()) {
            for (Method m : c.getDeclaredMethods()) {
                CHECKS.holds(m + " bears no name of the face", !names.contains(m.getName()));
            }
        }
        for (Method m : PaneOrder.class.getDeclaredMethods()) {
            CHECKS.holds(m + " bears no name of the face", isShown(m) || !names.contains(m.getName()));
            CHECKS.holds(m + " takes seven at most", m.getParameterCount() <= 7);
        }
        Set<String> constants = new TreeSet<>();
        for (Field f : PaneOrder.class.getDeclaredFields()) {
            if (isShown(f)) {
                constants.add(f.getName() + " " + f.getInt(null));
                CHECKS.due(f.getName(), f.getModifiers(), Modifier.PUBLIC | Modifier.STATIC | Modifier.FINAL);
            }
            CHECKS.holds(f + " is final, if static", !Modifier.isStatic(f.getModifiers()) || Modifier.isFinal(f.getModifiers()));
        }
        CHECKS.holds("the constants of the document: " + constants, constants.equals(Set.of(CONSTANTS)));
        Constructor<?>[] constructors = PaneOrder.class.getDeclaredConstructors();
        CHECKS.due("constructors", constructors.length, 1);
        CHECKS.due("its parameters", constructors[0].getParameterCount(), 0);
        CHECKS.holds("it is public", Modifier.isPublic(constructors[0].getModifiers()));
    }

    private static boolean isShown(Member m) {
        return !Modifier.isPrivate(m.getModifiers()) && !m.isSynthetic();
    }

    private static void classesInside() {
        Class<?>[] inside = PaneOrder.class.getDeclaredClasses();
        CHECKS.holds("some twelve classes at most", inside.length < 12);
        for (Class<?> c : inside) {
            CHECKS.holds(c + " is static", Modifier.isStatic(c.getModifiers()));
            int fields = 0;
            for (Field f : c.getDeclaredFields()) {
                fields += Modifier.isStatic(f.getModifiers()) ? 0 : 1;
            }
            CHECKS.holds(c + " has some twenty fields at most", fields <= 20);
        }
    }

    /** The source without comments. */
    private static String code(String source) {
        return source.replaceAll("(?s)/\\*.*?\\*/", " ").replaceAll("//[^\n]*", "");
    }

    private static void source(String code) {
        for (String word : WORDS_RULED_OUT) {
            CHECKS.holds("no '" + word + "'", !Pattern.compile("\\b" + Pattern.quote(word) + "\\b").matcher(code).find());
        }
        CHECKS.holds("no lambda", !code.contains("->"));
        CHECKS.holds("no method reference", !code.contains("::"));
        CHECKS.holds("none of those that end in Exact", !code.contains("Exact"));
        CHECKS.holds("no static block", !Pattern.compile("\\bstatic\\s*\\{").matcher(code).find());
        CHECKS.holds("no tab", !code.contains("\t"));
        Matcher imports = Pattern.compile("import ([^;]*);").matcher(code);
        while (imports.find()) {
            CHECKS.holds(imports.group(1) + " is of the library", imports.group(1).equals("java.util.Arrays"));
        }
        Matcher arrays = Pattern.compile("Arrays\\.(\\w+)").matcher(code);
        while (arrays.find()) {
            CHECKS.holds(arrays.group() + " is of the library", Set.of("fill", "copyOf", "copyOfRange").contains(arrays.group(1))
                    || arrays.group().equals("Arrays.java"));
        }
        int longest = 0;
        int since = 0;
        for (String line : code.split("\n")) {
            since = line.matches(" {4}( {4})?[a-z].*\\) \\{") ? 0 : since + 1;
            longest = line.matches(" {4}( {4})?\\}") ? Math.max(longest, since) : longest;
        }
        CHECKS.holds("methods of some sixty lines at most, the longest has " + longest, longest <= 60);
    }
}
