import java.io.IOException;
import java.nio.file.Files;
import java.nio.file.Path;
import java.util.HashMap;
import java.util.List;
import java.util.Map;
import java.util.regex.Matcher;
import java.util.regex.Pattern;

/** The examples of README.md, made call by call as they stand there. */
public final class ReadmeTest {
    private static final Check CHECK = new Check("ReadmeTest");
    private static final Pattern CALL =
            Pattern.compile("(?:int (\\w+) = )?x\\.(\\w+)\\((.*?)\\);\\s+// (-?\\d+)(?::.*)?");

    private BurstBounds x = null;
    private final Map<String, Integer> named = new HashMap<>();

    public static void main(String[] args) throws IOException {
        List<String> lines = Files.readAllLines(Path.of("README.md"));
        ReadmeTest examples = new ReadmeTest();
        int made = 0;
        boolean isInside = false;
        for (String line : lines) {
            if (line.startsWith("```")) {
                isInside = line.equals("```java");
            } else if (isInside) {
                examples.make(line);
                made++;
            }
        }
        CHECK.holds("README.md has examples", made > 0);
        String page = String.join("\n", lines);
        for (String name : Calls.names()) {
            CHECK.holds("README.md names " + name, page.contains("`" + name + "`"));
        }
        CHECK.end();
    }

    private void make(String line) {
        if (line.equals("BurstBounds x = new BurstBounds();")) {
            x = new BurstBounds();
            named.clear();
            return;
        }
        Matcher call = CALL.matcher(line);
        boolean isCall = call.matches() && x != null;
        CHECK.holds("'" + line + "' is a call with its answer", isCall);
        if (!isCall) {
            return;
        }
        long got = Calls.make(x, call.group(2), numbers(call.group(3)));
        CHECK.due(line, got, Long.parseLong(call.group(4)));
        if (call.group(1) != null) {
            named.put(call.group(1), (int) got);
        }
    }

    private int[] numbers(String told) {
        String[] parts = told.isEmpty() ? new String[0] : told.split(", ");
        int[] numbers = new int[parts.length];
        for (int i = 0; i < parts.length; i++) {
            String part = parts[i];
            numbers[i] = named.containsKey(part) ? named.get(part)
                    : part.startsWith("'") ? part.charAt(1) : Integer.parseInt(part);
        }
        return numbers;
    }
}
