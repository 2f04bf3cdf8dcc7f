import java.nio.file.Files;
import java.nio.file.Path;
import java.util.ArrayList;
import java.util.List;

/** README.md's example: each of its lines answers what stands behind it, and no line of it is left out here. */
public final class ReadmeTest extends Answers {
    private final MinimalTables x = new MinimalTables();
    private final List<String> lines = new ArrayList<>();
    private int next = 0;

    private ReadmeTest(Path readme) throws Exception {
        boolean inside = false;
        for (String line : Files.readAllLines(readme)) {
            if (line.startsWith("```")) {
                inside = line.equals("```java");
            } else if (inside) {
                lines.add(line);
            }
        }
    }

    /** The next line is that call, and says that answer. */
    private void says(String call, long got) {
        String line = next < lines.size() ? lines.get(next) : "";
        next++;
        due("README has " + call + "; in its line " + next, line.startsWith(call + ";"), true);
        int at = line.indexOf("// ");
        int colon = line.indexOf(':', Math.max(at, 0));
        if (at < 0 || colon < 0) {
            due("an answer is told by " + line, false, true);
            return;
        }
        due("README: " + call, got, Long.parseLong(line.substring(at + 3, colon)));
    }

    private void run() {
        due("README begins with an object", lines.size() > 0 && lines.get(0).equals("MinimalTables x = new MinimalTables();"),
            true);
        next = 1;
        says("x.feed(0x453D4570, 0x543B453D, 0x543B543D, 0x69000000, 0)",
            x.feed(0x453D4570, 0x543B453D, 0x543B543D, 0x69000000, 0));
        says("x.fault(0)", x.fault(0));
        says("x.text(0)", x.text(0));
        says("x.feed(0x69706900, 0, 0, 0, 0)", x.feed(0x69706900, 0, 0, 0, 0));
        says("x.text(1)", x.text(1));
        says("x.feed(0x69690000, 0, 0, 0, 0)", x.feed(0x69690000, 0, 0, 0, 0));
        says("x.text(1)", x.text(1));
        says("x.letter(0, 2)", x.letter(0, 2));
        says("x.name(1, 2)", x.name(1, 2));
        says("x.names(0)", x.names(0));
        says("x.states(2)", x.states(2));
        says("x.action(2, 0, 0, false)", x.action(2, 0, 0, false));
        says("x.action(2, 1, 1, false)", x.action(2, 1, 1, false));
        says("x.action(2, 1, 0, false)", x.action(2, 1, 0, false));
        says("x.action(2, 1, 0, true)", x.action(2, 1, 0, true));
        says("x.action(2, 6, 0, false)", x.action(2, 6, 0, false));
        says("x.reads(2, 0, 0, 0)", x.reads(2, 0, 0, 0));
        says("x.reduced(2, 0, 0, 0)", x.reduced(2, 0, 0, 0));
        says("x.reads(2, 1, 0, 0)", x.reads(2, 1, 0, 0));
        says("x.expects(2, 1)", x.expects(2, 1));
        says("x.mends(2, 1)", x.mends(2, 1));
        says("x.mends(2, 0)", x.mends(2, 0));
        says("x.sorts()", x.sorts());
        says("x.toggle(0)", x.toggle(0));
        says("x.reads(2, 0, 0, 0)", x.reads(2, 0, 0, 0));
        says("x.undo()", x.undo());
        says("x.reads(2, 0, 0, 0)", x.reads(2, 0, 0, 0));
        says("x.undo()", x.undo());
        due("lines of README's example", lines.size(), next);
    }

    public static void main(String[] args) throws Exception {
        Path source = Path.of(System.getProperty("main.source", "src/main/java/MinimalTables.java")).toAbsolutePath();
        Path root = source.getParent().getParent().getParent().getParent();
        new ReadmeTest(root.resolve("README.md")).run();
        tellAll();
    }
}
