import java.io.IOException;
import java.nio.file.Files;
import java.nio.file.Path;
import java.util.Set;
import java.util.TreeSet;
import java.util.regex.Matcher;
import java.util.regex.Pattern;

/**
 * The example of README.md answers what README.md says, and shows every method.
 * It is read from the file itself, so that the two cannot drift apart.
 */
public final class ReadmeTest {
    private static final Set<String> METHODS = Set.of(
        "join", "part", "most", "spare", "usable", "needed", "guards", "mostWithout", "parts");
    private static final Pattern LINE = Pattern.compile("desk\\.(\\w+)\\(([-\\d, ]*)\\); +// (-?\\d+): .+");

    private static final Answers answers = new Answers();

    public static void main(String[] args) throws IOException {
        BlossomDesk desk = new BlossomDesk();
        Set<String> shown = new TreeSet<>();
        for (String text : Files.readAllLines(Path.of("README.md"))) {
            if (text.startsWith("desk.")) {
                shown.add(runLine(desk, text));
            }
        }
        answers.due("README.md shows each method, not only " + shown, 1, shown.equals(METHODS) ? 1 : 0);
        answers.finish();
    }

    private static String runLine(BlossomDesk desk, String text) {
        Matcher line = LINE.matcher(text);
        if (!line.matches()) {
            answers.due("README.md: not a call with its answer: " + text, 1, 0);
            return "";
        }
        int want = Integer.parseInt(line.group(3));
        answers.due("README.md: " + text, want, call(desk, line.group(1), numbers(line.group(2))));
        return line.group(1);
    }

    private static int[] numbers(String list) {
        return Pattern.compile(", ").splitAsStream(list)
            .filter(number -> !number.isEmpty()).mapToInt(Integer::parseInt).toArray();
    }

    private static int call(BlossomDesk desk, String method, int[] given) {
        return switch (method) {
            case "join" -> desk.join(given[0], given[1]);
            case "part" -> desk.part(given[0], given[1]);
            case "most" -> desk.most();
            case "spare" -> desk.spare(given[0]);
            case "usable" -> desk.usable(given[0], given[1]);
            case "needed" -> desk.needed(given[0], given[1]);
            case "guards" -> desk.guards();
            case "mostWithout" -> desk.mostWithout(given[0]);
            case "parts" -> desk.parts();
            default -> throw new IllegalArgumentException("no such method: " + method);
        };
    }
}
