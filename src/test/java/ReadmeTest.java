import java.io.IOException;
import java.lang.reflect.Method;
import java.lang.reflect.Modifier;
import java.nio.file.Files;
import java.nio.file.Path;
import java.util.Map;
import java.util.TreeMap;
import java.util.regex.Matcher;
import java.util.regex.Pattern;

/** README.md: its calls answer what it says, and its table has every call of the face; args: the class's file. */
public final class ReadmeTest {
    private static final Check check = new Check();

    /** Which refusals the document names for each call. */
    private static final Map<String, String> REFUSED = Map.ofEntries(
        Map.entry("type", "BAD, FULL"), Map.entry("clear", ""), Map.entry("tells", ""),
        Map.entry("joins", "BAD, STATE"), Map.entry("leaves", "BAD, STATE"), Map.entry("rearranges", "STATE"),
        Map.entry("cuts", "BAD, STATE"), Map.entry("mends", "BAD, STATE"), Map.entry("limits", "BAD, STATE"),
        Map.entry("undo", "STATE"), Map.entry("link", "BAD"), Map.entry("node", "BAD"), Map.entry("way", "BAD"),
        Map.entry("tree", "BAD"), Map.entry("sees", "BAD, FULL"), Map.entry("forget", ""),
        Map.entry("which", "BAD"), Map.entry("keep", "BAD"), Map.entry("back", "BAD, STATE"), Map.entry("count", "BAD"));

    public static void main(String[] args) throws IOException {
        if (args.length > 0) {
            String readme = Files.readString(Path.of(args[0]).resolveSibling("../../../README.md").normalize());
            example(readme);
            table(readme);
            constants(readme);
        }
        check.end();
    }

    /** The text of the example is typed where it stands; its loop is not read. */
    private static void example(String readme) {
        Matcher block = Pattern.compile("(?s)```java\n(.*?)```").matcher(readme);
        check.that("README.md has an example", block.find());
        TalkTrees talk = new TalkTrees();
        Pattern told = Pattern.compile("String text = \"(.*)\";");
        Pattern call = Pattern.compile("talk\\.(\\w+)\\((.*)\\);\\s*// (-?\\d+)\\b.*");
        int calls = 0;
        for (String line : block.group(1).split("\n")) {
            Matcher text = told.matcher(line);
            Matcher one = call.matcher(line);
            if (text.matches()) {
                Check.type(talk, text.group(1));
            } else if (one.matches()) {
                String words = (one.group(1) + " " + one.group(2).replace(",", "")).trim();
                check.due("README.md: " + line, Call.run(words).get(0).on(talk), Integer.parseInt(one.group(3)));
                calls++;
            } else {
                check.that("README.md: a call at the line's beginning has its answer: " + line, !line.startsWith("talk."));
            }
        }
        check.that("README.md shows answers", calls > 0);
    }

    private static void table(String readme) {
        Map<String, String> rows = new TreeMap<>();
        Matcher row = Pattern.compile("(?m)^\\| `(\\w+)\\((.*?)\\)` \\| .+ \\| ?(.*?) ?\\|$").matcher(readme);
        while (row.find()) {
            int numbers = row.group(2).isEmpty() ? 0 : row.group(2).split(", ").length;
            check.that("one row of " + row.group(1), rows.put(row.group(1), numbers + " " + row.group(3)) == null);
        }
        Map<String, String> due = new TreeMap<>();
        for (Method method : TalkTrees.class.getDeclaredMethods()) {
            if (Modifier.isPublic(method.getModifiers())) {
                due.put(method.getName(), method.getParameterCount() + " " + REFUSED.get(method.getName()));
            }
        }
        check.that("README.md's calls and refusals " + rows + " are " + due, rows.equals(due));
    }

    private static void constants(String readme) {
        check.that("README.md: BAD", readme.contains("`BAD` (" + TalkTrees.BAD));
        check.that("README.md: STATE", readme.contains("`STATE` (" + TalkTrees.STATE));
        check.that("README.md: FULL", readme.contains("`FULL` (" + TalkTrees.FULL));
        check.that("README.md: NONE", readme.contains("`NONE` (" + TalkTrees.NONE));
    }
}
