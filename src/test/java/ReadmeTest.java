import java.io.IOException;
import java.nio.file.Files;
import java.nio.file.Path;

/** That the example in README.md gets the answers that stand beside its calls. */
public final class ReadmeTest {
    private static String readme;

    public static void main(String[] args) throws IOException {
        Check.says("README.md");
        readme = Files.readString(Path.of("README.md"));
        Metronome m = new Metronome();
        answers("m.define(0, 0, 0, 2);", m.define(0, 0, 0, 2));
        answers("m.define(1, 7, 2, 0);", m.define(1, 7, 2, 0));
        answers("m.define(2, 2, 0 | 1 << 5, 0);", m.define(2, 2, 0 | 1 << 5, 0));
        answers("m.define(0, 2, 1 | 2 << 5, 0);", m.define(0, 2, 1 | 2 << 5, 0));
        answers("m.input(2, 5);", m.input(2, 5));
        answers("m.step(3);", m.step(3));
        answers("m.value(2);", m.value(2));
        answers("m.next(2);", m.next(2));
        Check.due("calls in the example", readme.lines().filter(line -> line.startsWith("m.")).count(), 8);
        Check.end();
    }

    private static void answers(String call, int got) {
        String[] parts = {};
        for (String line : readme.lines().toList()) {
            if (line.startsWith(call)) {
                parts = line.split("// |: ");
            }
        }
        Check.due(call + " stands in the example", parts.length, 3);
        if (parts.length == 3) {
            Check.due(call, got, Integer.parseInt(parts[1]));
        }
    }
}
