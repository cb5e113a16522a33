import java.io.IOException;
import java.nio.file.DirectoryStream;
import java.nio.file.Files;
import java.nio.file.Path;
import java.util.ArrayList;
import java.util.Arrays;
import java.util.HashMap;
import java.util.List;
import java.util.Map;
import java.util.Set;
import java.util.TreeSet;
import java.util.regex.Matcher;
import java.util.regex.Pattern;

/** README.md: its examples, run as they stand there, and its tables of calls and of tests. */
final class ReadmeTest {
    private static final Pattern CALL =
        Pattern.compile("(?:int (\\w+) = )?talk\\.(\\w+)\\(([^)]*)\\);(?: +// (-?\\d+|NONE|BAD|STATE|FULL)\\b.*)?");
    private static final Map<String, Integer> REFUSALS = Map.of("NONE", TalkKeeper.NONE, "BAD", TalkKeeper.BAD,
        "STATE", TalkKeeper.STATE, "FULL", TalkKeeper.FULL);

    public static void main(String[] args) throws IOException {
        List<String> page = Files.readAllLines(Path.of("README.md"));
        examples(page);
        calls(page);
        tests(page);
        Due.end();
    }

    private static void examples(List<String> page) {
        int examples = 0;
        for (int i = 0; i < page.size(); i++) {
            if (page.get(i).equals("```java")) {
                int end = i + 1;
                while (end < page.size() && !page.get(end).equals("```")) {
                    end++;
                }
                example(page.subList(i + 1, end));
                examples++;
            }
        }
        Due.is("examples", 3, examples);
    }

    private static void example(List<String> lines) {
        TalkKeeper talk = new TalkKeeper();
        Due.isTrue("an example begins with a new object", lines.get(0).equals("TalkKeeper talk = new TalkKeeper();"));
        Map<String, Integer> names = new HashMap<>();
        for (String line : lines.subList(1, lines.size())) {
            Matcher call = CALL.matcher(line);
            Due.isTrue("README.md: " + line + " is a call", call.matches());
            int which = call.matches() ? List.of(Calls.NAMES).indexOf(call.group(2)) : -1;
            int[] numbers = which < 0 ? null : numbers(call.group(3), names);
            if (numbers == null || numbers.length != Calls.PARAMETERS[which]) {
                Due.isTrue("README.md: " + line + " can be run", false);
                return;
            }
            int got = Calls.call(talk, which, Arrays.copyOf(numbers, 5));
            if (call.group(4) == null) {
                Due.isTrue("README.md: " + line + " is taken, answers " + got, got >= 0);
            } else {
                Due.is("README.md: " + line, number(call.group(4), REFUSALS), got);
            }
            if (call.group(1) != null) {
                names.put(call.group(1), got);
            }
        }
    }

    /** The arguments of a call; null if one is a name that was not told. */
    private static int[] numbers(String list, Map<String, Integer> names) {
        if (list.isEmpty()) {
            return new int[0];
        }
        String[] parts = list.split(", ");
        int[] numbers = new int[parts.length];
        for (int i = 0; i < parts.length; i++) {
            Integer number = number(parts[i], names);
            if (number == null) {
                return null;
            }
            numbers[i] = number;
        }
        return numbers;
    }

    private static Integer number(String text, Map<String, Integer> names) {
        return text.matches("-?\\d+") ? Integer.valueOf(text) : names.get(text);
    }

    private static void calls(List<String> page) {
        List<String> told = new ArrayList<>();
        for (String line : page) {
            Matcher row = Pattern.compile("\\| `(\\w+)\\((.*?)\\)` \\|.*").matcher(line);
            if (row.matches()) {
                told.add(row.group(1) + " " + (row.group(2).isEmpty() ? 0 : row.group(2).split(", ").length));
            }
        }
        List<String> due = new ArrayList<>();
        for (int i = 0; i < Calls.NUMBER; i++) {
            due.add(Calls.NAMES[i] + " " + Calls.PARAMETERS[i]);
        }
        Due.isTrue("README.md tells the calls " + told, told.equals(due));
    }

    private static void tests(List<String> page) throws IOException {
        Set<String> told = new TreeSet<>();
        for (String line : page) {
            Matcher row = Pattern.compile("\\| (\\w+Test) \\|.*").matcher(line);
            if (row.matches()) {
                told.add(row.group(1) + ".java");
            }
        }
        Set<String> found = new TreeSet<>();
        try (DirectoryStream<Path> files = Files.newDirectoryStream(Path.of("src/test/java"), "*Test.java")) {
            for (Path file : files) {
                found.add(file.getFileName().toString());
            }
        }
        Due.isTrue("README.md tells the tests " + told + ", there are " + found, told.equals(found));
    }
}
