import java.io.IOException;
import java.lang.reflect.Method;
import java.nio.file.Files;
import java.nio.file.Path;
import java.util.Arrays;
import java.util.List;
import java.util.Set;
import java.util.TreeSet;
import java.util.regex.Matcher;
import java.util.regex.Pattern;

/** README.md tells of every call of the public face, and its example answers what it says there. */
public final class ReadmeTest {
    private static final List<String> CALLS = List.of(
            "int trip(int stop, int time)",
            "int call(int stop, int time)",
            "int cancel(int i)",
            "boolean delay(int i, int k, int delay)",
            "boolean walk(int a, int b, int time)",
            "int arrival(int a, int b, int t, int rides)",
            "int fewest(int a, int b, int t)",
            "int choices(int a, int b, int t)",
            "int leave(int a, int b, int by)",
            "int within(int a, int t, int by)");
    private static final Pattern EXAMPLE = Pattern.compile("x\\.(\\w+)\\(([-0-9, ]*)\\);\\s*// (\\w+): .*");

    private static int wrong = 0;

    public static void main(String[] args) throws IOException, ReflectiveOperationException {
        List<String> lines = Files.readAllLines(Path.of("README.md"));
        eachCallHasItsParagraph(lines);
        theConstantsHaveTheirValues(lines);
        theExampleAnswersWhatItSays(lines);
        System.out.println(wrong == 0 ? "README.md is as due" : wrong + " things in README.md are not as due");
        if (wrong != 0) {
            System.exit(1);
        }
    }

    private static void eachCallHasItsParagraph(List<String> lines) {
        for (String call : CALLS) {
            int at = 0;
            while (at < lines.size() && !lines.get(at).startsWith("`" + call + "` ")) {
                at++;
            }
            for (String part : List.of("- Takes ", "- Answers ", "- Refused")) {
                due(call + " has '" + part + "'", paragraphHas(lines, at, part));
            }
        }
    }

    private static boolean paragraphHas(List<String> lines, int from, String beginning) {
        for (int at = from; at < lines.size() && !lines.get(at).isEmpty(); at++) {
            if (lines.get(at).startsWith(beginning)) {
                return true;
            }
        }
        return false;
    }

    private static void theConstantsHaveTheirValues(List<String> lines) {
        for (String row : List.of(
                "| `BAD` | " + TransitRounds.BAD + " |",
                "| `FULL` | " + TransitRounds.FULL + " |",
                "| `NONE` | " + TransitRounds.NONE + " |")) {
            due(row, lines.stream().anyMatch(line -> line.startsWith(row)));
        }
    }

    private static void theExampleAnswersWhatItSays(List<String> lines) throws ReflectiveOperationException {
        TransitRounds x = new TransitRounds();
        Set<String> used = new TreeSet<>();
        for (String line : lines) {
            Matcher example = EXAMPLE.matcher(line);
            if (example.matches()) {
                used.add(example.group(1));
                String got = answer(x, example.group(1), example.group(2));
                due(line + " (answered " + got + ")", got.equals(example.group(3)));
            } else {
                due("an answer is told: " + line, !line.startsWith("x."));
            }
        }
        due("the example has every call, not only " + used, used.size() == CALLS.size());
    }

    private static String answer(TransitRounds x, String name, String numbers) throws ReflectiveOperationException {
        Object[] arguments = Arrays.stream(numbers.split(", ")).map(Integer::valueOf).toArray();
        Class<?>[] types = new Class<?>[arguments.length];
        Arrays.fill(types, int.class);
        Method call = TransitRounds.class.getMethod(name, types);
        return named(String.valueOf(call.invoke(x, arguments)));
    }

    private static String named(String answer) {
        switch (answer) {
            case "-1":
                return "BAD";
            case "-2":
                return "FULL";
            case "-3":
                return "NONE";
            default:
                return answer;
        }
    }

    private static void due(String what, boolean holds) {
        if (!holds) {
            wrong++;
            System.out.println("README.md: not as due: " + what);
        }
    }
}
