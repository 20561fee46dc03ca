import java.lang.reflect.Method;
import java.nio.file.Files;
import java.nio.file.Path;
import java.util.Arrays;
import java.util.HashSet;
import java.util.List;
import java.util.Set;
import java.util.regex.Matcher;
import java.util.regex.Pattern;
import java.util.stream.Stream;

/** Each row of README.md's examples answers what stands behind it, and each test is named there. */
public final class ReadmeTest {
    private static final Pattern TELLS = Pattern.compile("tell\\(x, \"([^\"]*)\"\\);");
    private static final Pattern CALLS = Pattern.compile("x\\.(\\w+)\\(([^()]*)\\); +// (-?\\d+)(:.*)?");
    private static final Set<String> CONSTANTS = Set.of("UNKNOWN", "OUTSIDE", "STATE", "FULL", "NO", "NONE");

    private static SpeakTubes x;

    public static void main(String[] args) throws Exception {
        List<String> rows = Files.readAllLines(Path.of("README.md"));
        Set<String> shown = new HashSet<>();
        for (String row : rows) {
            Matcher tells = TELLS.matcher(row);
            Matcher calls = CALLS.matcher(row);
            if (row.equals("SpeakTubes x = new SpeakTubes();")) {
                x = new SpeakTubes();
            } else if (tells.matches()) {
                Check.tell(x, tells.group(1));
            } else if (calls.matches()) {
                Check.due("README: " + row, answer(calls.group(1), calls.group(2)), Integer.parseInt(calls.group(3)));
                constant(row, calls);
                shown.add(calls.group(1));
            } else {
                Check.isTrue("a row of an example: " + row, !row.startsWith("x.") && !row.startsWith("tell"));
            }
        }
        Check.isTrue("examples of some calls", shown.size() >= 20);
        named(String.join("\n", rows));
        Check.end("ReadmeTest");
    }

    private static int answer(String name, String numbers) throws Exception {
        Object[] given = Arrays.stream(numbers.isEmpty() ? new String[0] : numbers.split(", "))
            .map(number -> number.matches("true|false") ? (Object) Boolean.valueOf(number) : Integer.valueOf(number))
            .toArray();
        for (Method method : SpeakTubes.class.getMethods()) {
            if (method.getName().equals(name) && method.getParameterCount() == given.length) {
                return (int) method.invoke(x, given);
            }
        }
        throw new AssertionError("there is no call " + name + " of " + given.length);
    }

    /** Where a constant's name begins what is said of an answer, it is that constant's number. */
    private static void constant(String row, Matcher calls) throws Exception {
        String said = calls.group(4) == null ? "" : calls.group(4).substring(1).trim().replaceAll("\\W.*", "");
        if (CONSTANTS.contains(said)) {
            Check.due("README: " + row, Integer.parseInt(calls.group(3)), SpeakTubes.class.getField(said).getInt(null));
        }
    }

    private static void named(String text) throws Exception {
        try (Stream<Path> files = Files.list(Path.of("src/test/java"))) {
            for (Path file : files.sorted().toList()) {
                String name = file.getFileName().toString().replace(".java", "");
                Check.isTrue("README names " + name, !name.endsWith("Test") || text.contains("`" + name + "`"));
            }
        }
    }
}
