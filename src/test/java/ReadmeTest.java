import java.io.IOException;
import java.nio.file.Files;
import java.nio.file.Path;
import java.util.List;

/** The example in README.md answers what its comments say. */
public final class ReadmeTest {
    private static final FlowShelf X = new FlowShelf();
    private static int line;
    private static List<String> example;

    public static void main(String[] args) throws IOException {
        String text = Files.readString(Path.of("README.md"));
        int start = text.indexOf("```java\n") + 8;
        example = text.substring(start, text.indexOf("```", start)).lines().filter(each -> !each.isBlank()).toList();
        next("FlowShelf x = new FlowShelf()", "");
        next("x.packet(0, 1, 2, 80, 1500, false)", "" + X.packet(0, 1, 2, 80, 1500, false));
        next("x.tick(0, 15)", "" + X.tick(0, 15));
        next("x.ended(0, 0, 7)", "" + X.ended(0, 0, 7));
        next("x.field(0, 0, 0, 1)", "" + X.field(0, 0, 0, 1));
        next("x.field(0, 0, 3, 0)", "" + X.field(0, 0, 3, 0));
        next("x.seal(0, 0)", "" + X.seal(0, 0));
        int records = X.report(0);
        next("int records = x.report(0)", "" + records);
        int template = X.announce(0, 0);
        next("int template = x.announce(0, 0)", "" + template);
        next("x.hear(records)", "" + X.hear(records));
        next("x.count(0, 6)", "" + X.count(0, 6));
        next("x.hear(template)", "" + X.hear(template));
        next("x.hear(records)", "" + X.hear(records));
        next("x.row(0, 3)", "" + X.row(0, 3));
        next("x.row(0, 1)", "" + X.row(0, 1));
        Checks.due("lines of the example", line, example.size());
        Checks.close();
    }

    /** The example's next line is this call, and its comment begins with the answer. */
    private static void next(String call, String answer) {
        String told = line < example.size() ? example.get(line) : "";
        line++;
        String comment = told.contains("// ") ? told.substring(told.indexOf("// ") + 3) : "";
        Checks.due("line " + line, call, told.replaceFirst(";.*", ""));
        Checks.due(call, comment.replaceFirst(":.*", ""), answer);
    }
}
