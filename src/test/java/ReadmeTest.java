import java.io.IOException;
import java.nio.file.Files;
import java.nio.file.Path;
import java.util.ArrayList;
import java.util.List;

/** The example of README.md answers as its comments say. */
public final class ReadmeTest {
    private static final List<String> SHOWN = new ArrayList<>();

    public static void main(String[] args) throws IOException {
        RentByTheWheel x = new RentByTheWheel();
        shown("x.sign('0' << 24 | '3' << 16 | '4' << 8 | ':');", x.sign('0' << 24 | '3' << 16 | '4' << 8 | ':'));
        shown("x.sign('2' << 24);", x.sign('2' << 24));
        shown("x.end(5);", x.end(5));
        shown("x.house();", x.house());
        shown("x.quarter(0, -1);", x.quarter(0, -1));
        shown("x.row(0);", x.row(0));
        shown("x.debt(0);", x.debt(0));
        shown("x.fewest(1, 12);", x.fewest(1, 12));
        shown("x.row(1);", x.row(1));
        shown("x.undo();", x.undo());
        List<String> told = new ArrayList<>();
        for (String line : Files.readAllLines(Path.of("README.md"))) {
            if (line.startsWith("x.")) {
                told.add(line.replaceAll(" +// ", " // ").replaceAll("// (-?\\w+)(:.*)?$", "// $1"));
            }
        }
        Check.same("the example", String.join("\n", told), String.join("\n", SHOWN));
        Check.end();
    }

    private static void shown(String call, Object answer) {
        SHOWN.add(call + " // " + answer);
    }
}
