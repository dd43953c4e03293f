import java.lang.reflect.Method;
import java.lang.reflect.Modifier;
import java.nio.charset.StandardCharsets;
import java.nio.file.Files;
import java.nio.file.Path;
import java.util.regex.Matcher;
import java.util.regex.Pattern;

/** The calls that README.md shows are one run on one object: each answers as it says there. */
public final class ReadmeTest {
    private static final Checks CHECKS = new Checks("ReadmeTest");
    private static final Pattern SHOWN = Pattern.compile("(?s)```java\n(.*?)```");
    private static final Pattern PANES = Pattern.compile("String panes = \"([^\"]*)\";");
    private static final Pattern CALL = Pattern.compile("x\\.([a-z]+\\([^)]*\\)); +// (-?\\d+)\\b.*");
    private static final String START = "PaneOrder x = new PaneOrder();";
    private static final String SIZE = "x.text(0, panes.length());              // ";
    private static final String LOOP = "for (int i = 0; i < panes.length(); i++) {";
    private static final String PUT = "    x.put(0, i, panes.charAt(i));       // 1032: ";

    private final Run x = new Run("");
    private String panes = "";
    private int shown = 0;

    public static void main(String[] args) throws Exception {
        String page = Files.readString(Path.of("README.md"), StandardCharsets.UTF_8);
        ReadmeTest test = new ReadmeTest();
        Matcher block = SHOWN.matcher(page);
        while (block.find()) {
            for (String line : block.group(1).split("\n")) {
                test.look(line);
            }
        }
        CHECKS.holds("there are calls on the page, not " + test.shown, test.shown > 40);
        for (Method m : PaneOrder.class.getDeclaredMethods()) {
            if (Modifier.isPublic(m.getModifiers())) {
                CHECKS.holds("the page names " + m.getName(),
                        page.contains("x." + m.getName() + "(") || page.contains("`" + m.getName() + "`"));
            }
        }
        CHECKS.end();
    }

    private void look(String line) {
        Matcher told = PANES.matcher(line);
        Matcher call = CALL.matcher(line);
        if (told.matches()) {
            panes = told.group(1);
        } else if (line.startsWith(SIZE)) {
            due(line, "text(0, " + panes.length() + ")", line.substring(SIZE.length()));
        } else if (line.startsWith(PUT)) {
            for (int i = 0; i < panes.length(); i++) {
                due(line, "put(0, " + i + ", " + (int) panes.charAt(i) + ")", "1032");
            }
        } else if (call.matches()) {
            due(line, call.group(1), call.group(2));
        } else {
            CHECKS.holds("'" + line + "' is known to this test",
                    line.equals(START) || line.equals(LOOP) || line.equals("}"));
        }
    }

    private void due(String line, String call, String want) {
        shown++;
        CHECKS.due(line.trim(), x.go(call), Long.parseLong(want));
    }
}
