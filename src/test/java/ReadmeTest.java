import java.io.IOException;
import java.lang.reflect.InvocationTargetException;
import java.lang.reflect.Method;
import java.nio.file.Files;
import java.nio.file.Path;
import java.util.ArrayList;
import java.util.List;
import java.util.Set;
import java.util.TreeSet;
import java.util.regex.Matcher;
import java.util.regex.Pattern;
import java.util.stream.Collectors;
import java.util.stream.Stream;

/** What README.md says of the class's use and of its tests, carried out as it is written there. */
public final class ReadmeTest {
    private static final Check check = new Check();
    private static final Path TESTS = Path.of("src/test/java");
    private static final String NEW = "RiverCorset x = new RiverCorset();";
    private static final Pattern CALL = Pattern.compile(
            "x\\.(\\w+)\\(([^()]*)\\); +// (-?\\d+|true|false|throws \\w+)(: .+)?");
    private static final Pattern TEST_NAME = Pattern.compile("`(\\w+Test)`");

    /** The README's code of one tongue, a row of lines for each fence. */
    private static List<List<String>> blocks(List<String> readme, String tongue) {
        List<List<String>> blocks = new ArrayList<>();
        List<String> open = null;
        boolean fenced = false;
        for (String line : readme) {
            if (line.startsWith("```")) {
                open = fenced || !line.equals("```" + tongue) ? null : new ArrayList<>();
                fenced = !fenced;
                if (open != null) {
                    blocks.add(open);
                }
            } else if (open != null) {
                open.add(line);
            }
        }
        return blocks;
    }

    public static void main(String[] args) throws IOException, InterruptedException {
        List<String> readme = Files.readAllLines(Path.of("README.md"));
        List<String> calls = new ArrayList<>();
        for (List<String> block : blocks(readme, "java")) {
            if (block.get(0).startsWith("static void feed(")) {
                helper(block);
            } else {
                calls.addAll(block);
            }
        }
        run(calls);
        text(blocks(readme, "text"), calls);
        tests(readme);
        commands(blocks(readme, "sh"));
        check.end("ReadmeTest");
    }

    /** The calls in their order, all on the one object that the first of them makes. */
    private static void run(List<String> calls) {
        check.says("README", "every call on one object, in this order, and its answer");
        RiverCorset x = new RiverCorset();
        Set<String> called = new TreeSet<>();
        check.same("the first line", calls.get(0), NEW);
        for (String line : calls.subList(1, calls.size())) {
            Matcher call = CALL.matcher(line);
            check.due(line + " is a call with its answer", call.matches(), true);
            if (call.matches()) {
                called.add(call.group(1));
                check.same(line, answer(x, call.group(1), call.group(2)), call.group(3));
            }
        }
        check.says("README", "one run through all of its calls");
        Set<String> face = Stream.of(RiverCorset.class.getMethods())
                .filter(method -> method.getDeclaringClass() == RiverCorset.class)
                .map(Method::getName).collect(Collectors.toCollection(TreeSet::new));
        check.same("calls", called.toString(), face.toString());
        check.due("512 calls at most", calls.size() <= 512, true);
        check.says("README", "RiverCorset.NONE, which is -1");
        check.due("NONE", RiverCorset.NONE, -1);
    }

    private static String answer(RiverCorset x, String name, String arguments) {
        String[] words = arguments.isEmpty() ? new String[0] : arguments.split(", ");
        Object[] values = Stream.of(words).map(ReadmeTest::value).toArray();
        for (Method method : RiverCorset.class.getMethods()) {
            if (method.getName().equals(name) && method.getParameterCount() == values.length) {
                try {
                    return String.valueOf(method.invoke(x, values));
                } catch (InvocationTargetException thrown) {
                    return "throws " + thrown.getCause().getClass().getSimpleName();
                } catch (IllegalAccessException | IllegalArgumentException wrong) {
                    return wrong.toString();
                }
            }
        }
        return "no such call";
    }

    private static Object value(String word) {
        if (word.equals("true") || word.equals("false")) {
            return word.equals("true");
        }
        return Integer.decode(word);
    }

    /** The bytes fed first are those of the text, with blanks behind it, and it is read to its end. */
    private static void text(List<List<String>> texts, List<String> calls) {
        check.says("README", "the text, on THE TAPE one line");
        check.due("one text", texts.size(), 1);
        String text = String.join("", texts.get(0));
        StringBuilder fed = new StringBuilder();
        int at = 1;
        while (calls.get(at).startsWith("x.feed(")) {
            Matcher number = Pattern.compile("0x(\\w{2})(\\w{2})(\\w{2})(\\w{2})").matcher(calls.get(at));
            while (number.find()) {
                for (int i = 1; i <= 4; i++) {
                    fed.append((char) Integer.parseInt(number.group(i), 16));
                }
            }
            at++;
        }
        check.same("what is fed", fed.toString(), text + " ".repeat(fed.length() - text.length()));
        check.due("fewer than 20 blanks", fed.length() - text.length() < 20, true);
        check.due(calls.get(at), calls.get(at).startsWith("x.river(" + text.length() + ");"), true);
        check.says("README", "a line's end is no blank, and a text with one is refused");
        RiverCorset x = new RiverCorset();
        check.fine(x, "the text", Check.river(x, text), 2);
        check.refused(x, "with a line's end", Check.river(x, String.join("\n", texts.get(0))), 4);
        check.due("fault()", x.fault(), 1);
        check.due("where()", x.where(), texts.get(0).get(0).length());
    }

    private static void helper(List<String> block) throws IOException {
        check.says("README", "as Check.java has it");
        String code = Files.readAllLines(TESTS.resolve("Check.java")).stream().map(String::trim)
                .collect(Collectors.joining("\n"));
        String shown = block.stream().map(String::trim).collect(Collectors.joining("\n"));
        check.due("feed(x, text) stands in Check.java", code.contains(shown), true);
    }

    private static void tests(List<String> readme) throws IOException {
        check.says("README", "the tests by their names");
        Set<String> told = new TreeSet<>();
        for (String line : readme) {
            Matcher name = TEST_NAME.matcher(line);
            while (name.find()) {
                told.add(name.group(1));
            }
        }
        Set<String> there;
        try (Stream<Path> files = Files.list(TESTS)) {
            there = files.map(file -> file.getFileName().toString()).filter(name -> name.endsWith("Test.java"))
                    .map(name -> name.substring(0, name.length() - 5)).collect(Collectors.toCollection(TreeSet::new));
        }
        check.same("tests", told.toString(), there.toString());
    }

    /** .ci/run runs this test itself, so it is only looked at; the other commands are given. */
    private static void commands(List<List<String>> shells) throws IOException, InterruptedException {
        check.says("README", "how the tests are run");
        check.due("two ways", shells.size(), 2);
        check.same("all tests", shells.get(0).toString(), "[.ci/run]");
        check.due(".ci/run can be run", Files.isExecutable(Path.of(".ci/run")), true);
        ProcessBuilder shell = new ProcessBuilder("sh", "-e", "-c", String.join("\n", shells.get(1)));
        check.due("one test alone", shell.inheritIO().start().waitFor(), 0);
    }
}
