import java.io.IOException;
import java.nio.file.Files;
import java.nio.file.Path;
import java.util.List;
import java.util.Map;
import java.util.TreeMap;
import java.util.regex.Matcher;
import java.util.regex.Pattern;

/** The calls that README.md shows answer what stands behind them. */
public final class ReadmeTest {
    private static final String MADE = "RevisionStore store = new RevisionStore();";
    private static final Pattern SHOWN = Pattern.compile("(?:int (\\w+) = )?store\\.(\\w+\\(.*\\)); +// (-?\\d+): .+");

    private final Map<String, Integer> names = new TreeMap<>();
    private final Run run = new Run("README.md");

    public static void main(String[] args) throws IOException {
        List<String> readme = Files.readAllLines(Path.of("README.md"));
        int made = readme.indexOf(MADE);
        if (made < 0 || !SHOWN.matcher(readme.get(made + 1)).matches()) {
            Run.wrong("shows no calls", "README.md");
        } else {
            new ReadmeTest().check(readme.subList(made + 1, readme.size()));
        }
        Run.end();
    }

    private void check(List<String> lines) {
        for (String line : lines) {
            if (line.equals("```")) {
                return;
            }
            Matcher shown = SHOWN.matcher(line);
            if (shown.matches()) {
                make(shown.group(1), shown.group(2), Integer.parseInt(shown.group(3)));
            } else {
                Run.wrong("can't be read: " + line, "README.md");
            }
        }
    }

    private void make(String name, String call, int want) {
        String withNumbers = call;
        for (String known : names.keySet()) {
            withNumbers = withNumbers.replaceAll("\\b" + known + "\\b", "" + names.get(known));
        }
        run.due(withNumbers, want);
        if (name != null) {
            names.put(name, want);
        }
    }
}
