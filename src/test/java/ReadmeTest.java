import java.nio.file.Files;
import java.nio.file.Path;
import java.util.regex.Matcher;
import java.util.regex.Pattern;

/** The calls that README.md shows answer as it says there. */
public final class ReadmeTest {
    private static final Pattern BLOCK = Pattern.compile("(?s)```java\n(.*?)```");
    private static final Pattern CALL = Pattern.compile("desk\\.(\\w+)\\(([^)]*)\\); +// (-?\\d+): .*");

    public static void main(String[] args) throws Exception {
        Matcher block = BLOCK.matcher(Files.readString(Path.of("README.md")));
        Due.due(0, "README.md shows calls", block.find() ? 1 : 0, 1);
        String[] lines = block.group(1).split("\n");
        Due.due(0, lines[0], lines[0].startsWith("DropChase desk = new DropChase(5);") ? 1 : 0, 1);
        DropChase desk = new DropChase(5);
        for (int i = 1; i < lines.length; i++) {
            if (!lines[i].isBlank()) ask(desk, lines[i]);
        }
        Due.end();
    }

    private static void ask(DropChase desk, String line) {
        Matcher call = CALL.matcher(line);
        if (!call.matches()) {
            Due.due(0, "README.md: '" + line + "' tells a call and its answer", 0, 1);
            return;
        }
        String[] given = call.group(2).isEmpty() ? new String[0] : call.group(2).split(", ");
        int[] numbers = new int[given.length];
        for (int i = 0; i < given.length; i++) {
            boolean truth = given[i].equals("true") || given[i].equals("false");
            numbers[i] = truth ? given[i].equals("true") ? 1 : 0 : Integer.parseInt(given[i]);
        }
        Due.due(0, "README.md: " + line, Pair.ask(desk, call.group(1), numbers), Long.parseLong(call.group(3)));
    }
}
