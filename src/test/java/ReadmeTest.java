import java.io.IOException;
import java.lang.reflect.InvocationTargetException;
import java.lang.reflect.Method;
import java.nio.file.Files;
import java.nio.file.Path;
import java.util.ArrayList;
import java.util.List;
import java.util.Set;
import java.util.TreeSet;
import java.util.regex.Matcher;
import java.util.regex.Pattern;
import java.util.stream.Collectors;
import java.util.stream.Stream;

/** What README.md says of the class and of its tests holds: its calls are made as they stand there. */
public final class ReadmeTest {
    private static final Check CHECK = new Check("readme");
    private static final Pattern MADE = Pattern.compile("GranaryLadder granary = new GranaryLadder\\(\\);");
    private static final Pattern CALLED = Pattern.compile("granary\\.(\\w+)\\((.*)\\); +// ('.'|-?\\w+)(?::.*|,.*|)");
    private static final Pattern CODE = Pattern.compile("\\| `([A-Z]+)` \\| (-\\d+) \\| .*");
    private static final Pattern KIND = Pattern.compile("\\| (\\d) \\| (\\w+) \\| `(.)` \\| (\\d+) weeks \\|");
    private static final Pattern REASON = Pattern.compile("\\| (\\d) \\| ([^|`]+) \\| ([^|`]+) \\|");
    private static final Pattern TEST = Pattern.compile("\\| `(\\w+Test)` \\| .*");
    private static final Pattern COMMAND = Pattern.compile("`((?:store|take|move|order|fix|pass) [^`]*)`");

    private interface Row {
        void look(Matcher row) throws ReflectiveOperationException;
    }

    public static void main(String[] args) throws IOException, ReflectiveOperationException {
        List<String> lines = Files.readAllLines(Path.of("README.md"));
        calls(lines);
        CHECK.due("codes", 5, rows(lines, CODE, row -> CHECK.due(row.group(1), Integer.parseInt(row.group(2)), constant(row.group(1)))));
        CHECK.due("kinds", 4, rows(lines, KIND, ReadmeTest::kind));
        CHECK.due("reasons", 9, rows(lines, REASON, ReadmeTest::reason));
        commands(lines);
        tests(lines);
        CHECK.end();
    }

    private static int rows(List<String> lines, Pattern pattern, Row row) throws ReflectiveOperationException {
        int count = 0;
        for (String line : lines) {
            Matcher matcher = pattern.matcher(line);
            if (matcher.matches()) {
                row.look(matcher);
                count++;
            }
        }
        return count;
    }

    private static int constant(String name) throws ReflectiveOperationException {
        return GranaryLadder.class.getField(name).getInt(null);
    }

    // ---- the example

    private static void calls(List<String> lines) throws ReflectiveOperationException {
        GranaryLadder granary = null;
        int start = lines.indexOf("```java") + 1;
        List<String> block = lines.subList(start, start + lines.subList(start, lines.size()).indexOf("```"));
        for (String line : block) {
            Matcher matcher = CALLED.matcher(line);
            if (MADE.matcher(line).matches()) {
                granary = new GranaryLadder();
            } else if (matcher.matches() && granary != null) {
                CHECK.due(line, answer(matcher.group(3)), call(granary, matcher.group(1), matcher.group(2)));
            } else {
                CHECK.dueText("a line that is neither empty nor a call with its answer", "", line);
            }
        }
    }

    private static long answer(String written) throws ReflectiveOperationException {
        if (written.startsWith("'")) {
            return written.charAt(1);
        }
        return Character.isUpperCase(written.charAt(0)) ? constant(written) : Long.parseLong(written);
    }

    private static long call(GranaryLadder granary, String name, String written) throws ReflectiveOperationException {
        List<Object> arguments = new ArrayList<>();
        for (String argument : written.isEmpty() ? new String[0] : written.split(", ")) {
            boolean isTruth = argument.equals("true") || argument.equals("false");
            arguments.add(isTruth ? (Object) Boolean.valueOf(argument) : (Object) (int) answer(argument));
        }
        for (Method method : GranaryLadder.class.getMethods()) {
            if (method.getName().equals(name) && method.getParameterCount() == arguments.size()) {
                return ((Number) invoke(method, granary, arguments)).longValue();
            }
        }
        throw new IllegalStateException("there is no method " + name);
    }

    private static Object invoke(Method method, GranaryLadder granary, List<Object> arguments) throws ReflectiveOperationException {
        try {
            return method.invoke(granary, arguments.toArray());
        } catch (InvocationTargetException thrown) {
            throw new IllegalStateException(method.getName() + " throws", thrown);
        }
    }

    // ---- tables

    private static void kind(Matcher row) {
        int kind = Integer.parseInt(row.group(1));
        int keeps = Integer.parseInt(row.group(4));
        String[] names = {"wheat", "rye", "oats", "barley"};
        CHECK.dueText("the name of the kind " + kind, names[kind], row.group(2));
        GranaryLadder x = Granaries.with(0, kind, 100, keeps);
        x.tell(0);
        CHECK.due("the letter in lines", row.group(3).charAt(0), x.character(0));
        CHECK.due("the letter in texts", 1, Check.runText(x, "order " + row.group(3) + " 1"));
        CHECK.due("not spoilt as long as it keeps", 0, x.account(11));
        CHECK.due("spoilt behind that", 10, x.pass(1));
    }

    private static void reason(Matcher row) {
        GranaryLadder x = Granaries.crackedAndEmpty();
        CHECK.due(row.group(2), GranaryLadder.REFUSED, refused(x, row.group(2)));
        CHECK.due(row.group(2) + ", reason", Integer.parseInt(row.group(1)), x.reason(false));
        CHECK.due(row.group(2) + ", " + row.group(3), detail(row.group(3)), x.reason(true));
    }

    /** Refuses something for what is written, so that the detail is the one below. */
    private static int refused(GranaryLadder x, String why) {
        switch (why) {
            case "another kind lies in the bay":
                x.store(9, 2, 1);
                return x.store(9, 1, 1);
            case "the bay would have more than 200 sacks":
                x.store(9, 2, 200);
                return x.store(9, 2, 3);
            case "there are too few sacks":
                x.store(9, 2, 4);
                return x.take(9, 5);
            case "both bays are one":
                return x.move(5, 5, 1);
            case "there are too few coins":
                x.fix(32);
                x.fix(16);
                return x.fix(8);
            case "the rung is sound":
                x.fix(6);
                return x.fix(6);
            case "the sum of the rung is more than its load":
                x.store(8, 2, 107);
                return x.fix(9);
            case "the bay is empty":
                return x.take(5, 1);
            case "a command of the text cannot be carried out":
                return Check.runText(x, "pass 1;fix 0");
            default:
                return 0;
        }
    }

    private static int detail(String written) {
        switch (written) {
            case "this kind":
                return 2;
            case "how many more":
                return 3;
            case "how many there are":
                return 4;
            case "the bay":
                return 5;
            case "the rung":
                return 6;
            case "by how many sacks":
                return 7;
            case "how many are missing":
                return 9;
            case "its number, from 0":
                return 1;
            default:
                return GranaryLadder.NOTHING;
        }
    }

    private static void commands(List<String> lines) {
        Matcher matcher = COMMAND.matcher(String.join(" ", lines));
        int count = 0;
        while (matcher.find()) {
            int answer = Check.runText(new GranaryLadder(), matcher.group(1));
            CHECK.due(matcher.group(1) + " is a right text", 1, answer == 1 || answer == GranaryLadder.REFUSED ? 1 : 0);
            count++;
        }
        CHECK.due("commands", 6, count);
    }

    private static void tests(List<String> lines) throws IOException, ReflectiveOperationException {
        Set<String> told = new TreeSet<>();
        rows(lines, TEST, row -> told.add(row.group(1)));
        try (Stream<Path> files = Files.list(Path.of("src/test/java"))) {
            Set<String> there = files.map(file -> file.getFileName().toString()).filter(name -> name.endsWith("Test.java"))
                    .map(name -> name.substring(0, name.length() - ".java".length())).collect(Collectors.toCollection(TreeSet::new));
            CHECK.dueText("the tests that are told", there.toString(), told.toString());
        }
    }
}
