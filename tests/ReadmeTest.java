import java.io.IOException;
import java.nio.file.Files;
import java.nio.file.Path;
import java.util.List;
import java.util.regex.Matcher;
import java.util.regex.Pattern;
import java.util.stream.Stream;

/** README.md: its example answers what it says, and it names every test. */
public final class ReadmeTest {
    private static final Pattern TEXT = Pattern.compile("String text = \"([^\"]*)\";");
    private static final Pattern CALL = Pattern.compile("(?m)^x\\.(\\w+)\\(([-0-9, ]*)\\); *// (-?\\d+)\\b");

    private static long[] numbers(String list) {
        return list.isBlank() ? new long[0] : Stream.of(list.split(",")).mapToLong(n -> Long.parseLong(n.strip())).toArray();
    }

    private static void example(String readme) {
        NoonWalker x = new NoonWalker();
        Matcher text = TEXT.matcher(readme);
        Due.is("there is a text", text.find() ? 1 : 0, 1);
        Due.type(x, text.group(1));
        Matcher call = CALL.matcher(readme);
        int calls = 0;
        while (call.find()) {
            String told = "README: x." + call.group(1) + "(" + call.group(2) + ")";
            Due.is(told, Calls.call(x, call.group(1), numbers(call.group(2))), Long.parseLong(call.group(3)));
            calls++;
        }
        Due.is("every call of the example was found", calls, readme.split("(?m)^x\\.", -1).length - 1);
        Due.is("there are calls", Math.min(calls, 1), 1);
    }

    private static void tests(String readme) throws IOException {
        List<String> names;
        try (Stream<Path> files = Files.list(Path.of("tests"))) {
            names = files.map(f -> f.getFileName().toString()).filter(f -> f.endsWith("Test.java")).map(f -> f.replace(".java", "")).toList();
        }
        for (String name : names) Due.is("README names " + name, readme.contains("`" + name + "`") ? 1 : 0, 1);
        Matcher named = Pattern.compile("`(\\w+Test)`").matcher(readme);
        while (named.find()) Due.is("there is a test " + named.group(1), names.contains(named.group(1)) ? 1 : 0, 1);
    }

    public static void main(String[] args) throws IOException {
        String readme = Files.readString(Path.of("README.md"));
        example(readme);
        tests(readme);
        Due.finish("ReadmeTest");
    }
}
