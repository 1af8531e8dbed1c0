import java.io.IOException;
import java.lang.reflect.Method;
import java.lang.reflect.Modifier;
import java.nio.file.Files;
import java.nio.file.Path;
import java.util.ArrayList;
import java.util.List;
import java.util.Map;
import java.util.TreeMap;
import java.util.regex.Matcher;
import java.util.regex.Pattern;

/** README.md tells every call as it is, and its example answers what it says. */
public final class ReadmeTest {
    private static final Pattern ROW = Pattern.compile("\\| `(\\w+)\\(([^)]*)\\)` \\|.*\\|([^|]*)\\|");
    private static final Pattern PROMISE = Pattern.compile("`\\w+ (\\w+)\\([^)]*\\)`: (.*)");
    private static final Pattern REFUSAL = Pattern.compile("\\b(BAD|NOT|FULL|NULL|INDEX|CAST|STORE|SIZE)\\b");
    private static final Pattern TELLS =
            Pattern.compile("for \\(char b : \"([^\"]*)\".*\\) x\\.type\\((\\d), b\\);.*");
    private static final Pattern CALL = Pattern.compile("x\\.(\\w+)\\(([^)]*)\\); +// (-?\\d+).*");
    private static int wrong = 0;
    private static int looked = 0;

    private static void must(boolean holds, String what) {
        looked++;
        if (!holds) {
            wrong++;
            System.out.println("not so: " + what);
        }
    }

    public static void main(String[] args) throws Exception {
        String readme = Files.readString(Path.of("README.md"));
        Map<String, Matcher> rows = rowsOf(readme);
        everyCallIsTold(rows);
        refusalsAreTheDocuments(rows);
        must(readme.contains("at most 512\ncalls") || readme.contains("at most 512 calls"), "for how many calls");
        must(readme.contains("\n    .ci/run\n"), "how the tests are run");
        everyTestIsTold(readme);
        exampleAnswers(readme);
        System.out.println(looked + " things looked at, " + wrong + " not so");
        if (wrong != 0) {
            System.exit(1);
        }
    }

    private static Map<String, Matcher> rowsOf(String readme) {
        Map<String, Matcher> rows = new TreeMap<>();
        for (String line : readme.split("\n")) {
            Matcher row = ROW.matcher(line);
            if (row.matches()) {
                must(rows.put(row.group(1), row) == null, "told once: " + row.group(1));
            }
        }
        return rows;
    }

    private static String[] split(String numbers) {
        return numbers.isBlank() ? new String[0] : numbers.trim().split(" *, *");
    }

    private static Method methodOf(String name) {
        for (Method m : ButlerWeather.class.getDeclaredMethods()) {
            if (Modifier.isPublic(m.getModifiers()) && m.getName().equals(name)) {
                return m;
            }
        }
        return null;
    }

    private static void everyCallIsTold(Map<String, Matcher> rows) {
        for (Method m : ButlerWeather.class.getDeclaredMethods()) {
            if (Modifier.isPublic(m.getModifiers())) {
                Matcher row = rows.get(m.getName());
                must(row != null && split(row.group(2)).length == m.getParameterCount(), "a row for " + m);
            }
        }
        for (String name : rows.keySet()) {
            must(methodOf(name) != null, "there is a call " + name);
        }
    }

    private static List<String> refusalsIn(String words) {
        List<String> found = new ArrayList<>();
        Matcher m = REFUSAL.matcher(words);
        while (m.find()) {
            found.add(m.group());
        }
        return found;
    }

    private static void refusalsAreTheDocuments(Map<String, Matcher> rows) throws IOException {
        int promises = 0;
        for (String line : Files.readString(Path.of("../shared/DOC.md")).split("\n")) {
            Matcher promise = PROMISE.matcher(line);
            if (promise.matches() && rows.containsKey(promise.group(1))) {
                promises++;
                List<String> due = refusalsIn(promise.group(2));
                List<String> told = refusalsIn(rows.get(promise.group(1)).group(3));
                must(told.equals(due), "refusals of " + promise.group(1) + ": " + told + ", due are " + due);
                must(rows.get(promise.group(1)).group(3).contains("the least")
                        == promise.group(2).matches(".*BAD: the least int.*|.*As the least long.*"),
                        "what BAD is, of " + promise.group(1));
            }
        }
        must(promises == 37, "all promises of calls are seen: " + promises);
    }

    private static void everyTestIsTold(String readme) throws IOException {
        try (var files = Files.list(Path.of("src/test/java"))) {
            files.forEach(file -> {
                String name = file.getFileName().toString().replace(".java", "");
                must(readme.contains("`" + name + "`"), "a word on " + name);
            });
        }
    }

    private static void exampleAnswers(String readme) throws Exception {
        Matcher block = Pattern.compile("(?s)```java\n(.*?)```").matcher(readme);
        must(block.find(), "there is an example");
        String[] lines = block.group(1).split("\n");
        must(lines[0].equals("ButlerWeather x = new ButlerWeather();"), "it begins with a new object");
        ButlerWeather x = new ButlerWeather();
        for (int i = 1; i < lines.length; i++) {
            Matcher tells = TELLS.matcher(lines[i]);
            Matcher call = CALL.matcher(lines[i]);
            if (tells.matches()) {
                for (char b : tells.group(1).toCharArray()) {
                    x.type(Integer.parseInt(tells.group(2)), b);
                }
            } else if (call.matches()) {
                long got = answerOf(x, call.group(1), split(call.group(2)));
                must(got == Long.parseLong(call.group(3)), lines[i] + " answered " + got);
            } else {
                must(false, "a line that can be run: " + lines[i]);
            }
        }
    }

    private static long answerOf(ButlerWeather x, String name, String[] numbers) throws Exception {
        Object[] given = new Object[numbers.length];
        for (int i = 0; i < numbers.length; i++) {
            given[i] = Integer.parseInt(numbers[i]);
        }
        return ((Number) methodOf(name).invoke(x, given)).longValue();
    }
}
