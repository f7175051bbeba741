import java.io.IOException;
import java.nio.file.Files;
import java.nio.file.Path;
import java.util.Set;
import java.util.TreeSet;
import java.util.regex.Matcher;
import java.util.regex.Pattern;
import java.util.stream.Collectors;
import java.util.stream.Stream;

/** What README.md says of answers is so: each call in it is made and answers what stands behind it. */
public final class ReadmeTest {
    private static final Path README = Path.of("README.md");
    private static final Path TESTS = Path.of("src/test/java");
    private static final Pattern NEW = Pattern.compile("OppositionInBaskets x = new OppositionInBaskets\\(\\);");
    private static final Pattern CALL = Pattern.compile("x\\.(\\w+\\([^)]*\\)); +// (-?\\d+)(:.*)?");
    private static final Pattern FEED = Pattern.compile("for \\(char c : \"([^\"]*)\"\\.toCharArray\\(\\)\\) x\\.feed\\(c\\);");
    private static final Pattern ROW = Pattern.compile("\\| (-\\d+)([^|]*)\\|[^|]*\\|((?: `\\w+\\([^`]*\\)`)+) \\|");
    private static final Pattern TEST = Pattern.compile("(?m)^\\| `(\\w+)` \\|");

    private static final Due due = new Due();
    private static final Set<String> shown = new TreeSet<>();
    private static OppositionInBaskets x;
    private static int calls;

    public static void main(String[] args) throws IOException {
        String readme = Files.readString(README);
        examples(readme.split("\n"));
        due.holds("each method of the face is shown: " + shown, shown.containsAll(Calls.methods().keySet()));
        refusals(readme.split("\n"));
        tests(readme);
        due.end();
    }

    private static void examples(String[] lines) {
        boolean inside = false;
        for (String line : lines) {
            if (line.startsWith("```")) {
                inside = line.equals("```java");
            } else if (inside && !line.isBlank()) {
                example(line);
            }
        }
        due.holds("no object is used for more than 512 calls", calls <= 512);
    }

    private static void example(String line) {
        Matcher call = CALL.matcher(line);
        Matcher feed = FEED.matcher(line);
        if (NEW.matcher(line).matches()) {
            x = new OppositionInBaskets();
        } else if (call.matches()) {
            shown.add(call.group(1).replaceAll("\\(.*", ""));
            calls++;
            due.is(line, Calls.answer(x, call.group(1)), Long.parseLong(call.group(2)));
        } else if (feed.matches()) {
            shown.add("feed");
            for (char c : feed.group(1).toCharArray()) {
                calls++;
                due.holds(line, x.feed(c) > 0);
            }
        } else {
            due.holds("a line of another form: " + line, false);
        }
    }

    /** Rows that name a number below 0: the last of the row's calls answers it. */
    private static void refusals(String[] lines) {
        Set<Long> named = new TreeSet<>();
        for (String line : lines) {
            Matcher row = ROW.matcher(line);
            if (row.matches()) {
                long want = Long.parseLong(row.group(1));
                named.add(want);
                due.is(line, lastAnswer(row.group(3)), want);
                constant(line, row.group(2), want);
            }
        }
        Set<Long> all = Set.of(-1L, -2L, -3L, -4L, -11L, -12L, -13L, -14L, -100L, -1000L, Edge.NO);
        due.holds("each number is named: " + named, named.equals(all));
    }

    private static long lastAnswer(String row) {
        OppositionInBaskets fresh = new OppositionInBaskets();
        long last = 0;
        Matcher m = Pattern.compile("`([^`]*)`").matcher(row);
        while (m.find()) {
            last = Calls.answer(fresh, m.group(1));
        }
        return last;
    }

    private static void constant(String line, String words, long value) {
        Matcher name = Pattern.compile(" \\(`(\\w+)`\\) ").matcher(words);
        if (name.matches()) {
            try {
                due.is(line, OppositionInBaskets.class.getField(name.group(1)).getLong(null), value);
            } catch (ReflectiveOperationException e) {
                due.holds("there is a constant of this name: " + line, false);
            }
        }
    }

    private static void tests(String readme) throws IOException {
        Set<String> told = new TreeSet<>();
        Matcher m = TEST.matcher(readme);
        while (m.find()) {
            told.add(m.group(1) + ".java");
        }
        try (Stream<Path> files = Files.list(TESTS)) {
            Set<String> there = files.map(f -> f.getFileName().toString()).filter(f -> f.endsWith("Test.java"))
                .collect(Collectors.toCollection(TreeSet::new));
            due.holds("the tests are " + there + ", told are " + told, told.equals(there));
        }
    }
}
