import java.lang.reflect.Method;
import java.nio.file.Files;
import java.nio.file.Path;
import java.util.HashMap;
import java.util.HashSet;
import java.util.List;
import java.util.Map;
import java.util.Set;
import java.util.regex.Matcher;
import java.util.regex.Pattern;

/** README.md: its example answers as it says, and each promise's call stands in it, with all that it may refuse. */
public final class ReadmeTest {
    /** Promises 2 to 32, in their order. */
    private static final List<String> CALLS = List.of("write(letter) BAD FULL", "wipe()", "fault() NONE", "lay() NO",
            "word(w, what) BAD", "reader(i, what) BAD", "notice(k, what) BAD", "put(code) BAD FULL", "take(k) BAD",
            "takeFor(w, b) BAD", "undo() NO", "reads(i, code) BAD", "answers(code) BAD", "price(code) BAD",
            "cheapest(i, what) NONE BAD", "twofold()", "matched(k) NONE BAD", "near(k) BAD", "column(l, what) BAD",
            "tell(i, code, answered) BAD FULL", "forget()", "taken(w) BAD", "speaks()", "odds(k, x, part) BAD",
            "run(k, x, y) NONE BAD", "wanted()", "moods(what) BAD", "month(z, n, what) BAD", "keep() FULL", "back() NO",
            "count(what) BAD");
    private static final Map<String, Integer> REFUSALS = Map.of("BAD", BackColumns.BAD, "NO", BackColumns.NO, "FULL",
            BackColumns.FULL, "NONE", BackColumns.NONE);

    private static int wrong = 0;

    private static void hold(boolean so, String what) {
        if (!so) {
            wrong++;
            System.out.println("not so: " + what);
        }
    }

    private static void rows(String page) {
        Map<String, String> refusals = new HashMap<>();
        Matcher row = Pattern.compile("(?m)^\\| `(\\w+\\([^)]*\\))` *\\|.*\\|([^|]*)\\|$").matcher(page);
        while (row.find()) {
            hold(refusals.put(row.group(1), row.group(2)) == null, row.group(1) + " has one row");
        }
        for (int n = 0; n < CALLS.size(); n++) {
            String call = CALLS.get(n).substring(0, CALLS.get(n).indexOf(')') + 1);
            String due = CALLS.get(n).substring(call.length());
            String told = refusals.remove(call);
            hold(told != null && words(told).equals(words(due)),
                    "promise " + (n + 2) + ": " + call + " has a row that ends with" + due + ", not with " + told);
        }
        hold(refusals.isEmpty(), "no rows beside the promises: " + refusals.keySet());
        REFUSALS.forEach((name, number) ->
                hold(page.contains("| `" + name + "` (" + number + ")"), name + " has a row with " + number));
    }

    private static Set<String> words(String line) {
        Set<String> words = new HashSet<>(List.of(line.trim().split("[ ,]+")));
        words.remove("");
        return words;
    }

    private static void example(String page) throws Exception {
        int from = page.indexOf("```java\n");
        int to = page.indexOf("```", from + 3);
        hold(from >= 0 && to > from, "there is an example");
        if (from < 0 || to < from) {
            return;
        }
        BackColumns paper = new BackColumns();
        Pattern text = Pattern.compile("String text = \"([^\"]*)\";");
        Pattern call = Pattern.compile("paper\\.(\\w+)\\(([-\\d, ]*)\\);\\s*// (-?\\d+|BAD|NONE|NO|FULL)\\b.*");
        int held = 0;
        for (String line : page.substring(from, to).split("\n")) {
            Matcher written = text.matcher(line);
            Matcher called = call.matcher(line);
            if (written.find()) {
                written.group(1).chars().forEach(paper::write);
            } else if (called.matches()) {
                held++;
                int due = REFUSALS.containsKey(called.group(3)) ? REFUSALS.get(called.group(3))
                        : Integer.parseInt(called.group(3));
                int got = answer(paper, called.group(1), called.group(2));
                hold(got == due, "the example: " + line + ": the answer is " + got);
            }
        }
        hold(held >= 5, "the example tells what its calls answer: " + held);
    }

    private static int answer(BackColumns paper, String name, String numbers) throws Exception {
        String[] figures = numbers.isEmpty() ? new String[0] : numbers.split(", *");
        Class<?>[] types = new Class<?>[figures.length];
        Object[] arguments = new Object[figures.length];
        for (int n = 0; n < figures.length; n++) {
            types[n] = int.class;
            arguments[n] = Integer.valueOf(figures[n]);
        }
        Method method = BackColumns.class.getMethod(name, types);
        return (Integer) method.invoke(paper, arguments);
    }

    private static void tests(String page) throws Exception {
        try (var files = Files.list(Path.of("src/test/java"))) {
            for (Path file : files.toList()) {
                String name = file.getFileName().toString().replace(".java", "");
                hold(page.contains("`" + name + "`"), name + " is named");
            }
        }
        hold(page.contains("`.ci/run`"), "how to run the tests");
        hold(page.contains("`new BackColumns()`"), "promise 1: how an object is made");
        hold(page.contains("w3,1,4;w2,5,5;w4,2,7;w1,0,3;w5,6,1;r0,6;r1,9;r2,4;r3,8;r1,2;n01;n24;n130;n3;"),
                "promise 1: what is laid at first");
    }

    public static void main(String[] args) throws Exception {
        String page = Files.readString(Path.of("README.md"));
        rows(page);
        example(page);
        tests(page);
        System.out.println(wrong == 0 ? "README.md holds" : wrong + " things in README.md do not hold");
        if (wrong != 0) {
            System.exit(1);
        }
    }
}
