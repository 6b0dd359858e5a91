import java.io.IOException;
import java.nio.file.Files;
import java.nio.file.Path;
import java.util.ArrayList;
import java.util.List;

/** The example of README.md: each line is there as it is called here, and tells the answer that the class gives. */
public final class ReadmeTest {
    private static final List<String> called = new ArrayList<>();

    private static void line(String code, int answer) {
        called.add(code + " // " + answer);
    }

    private static void line(String code, boolean answer) {
        called.add(code + " // " + answer);
    }

    private static void example() {
        PageSharer sharer = new PageSharer();
        called.add("PageSharer sharer = new PageSharer();");
        int parent = sharer.spawn();
        line("int parent = sharer.spawn();", parent);
        line("sharer.map(parent, 0, 4);", sharer.map(parent, 0, 4));
        line("sharer.write(parent, 1, 11);", sharer.write(parent, 1, 11));
        int child = sharer.fork(parent);
        line("int child = sharer.fork(parent);", child);
        line("sharer.processes();", sharer.processes());
        line("sharer.mappers(parent, 1);", sharer.mappers(parent, 1));
        line("sharer.swapOut(parent, 1);", sharer.swapOut(parent, 1));
        line("sharer.resident(child);", sharer.resident(child));
        line("sharer.write(child, 1, 12);", sharer.write(child, 1, 12));
        line("sharer.read(parent, 1);", sharer.read(parent, 1));
        line("sharer.read(child, 1);", sharer.read(child, 1));
        line("sharer.pages();", sharer.pages());
        line("sharer.residentPages();", sharer.residentPages());
        line("sharer.move(child, 0, 2, 6);", sharer.move(child, 0, 2, 6));
        line("sharer.mapped(child);", sharer.mapped(child));
        line("sharer.unmap(child, 0, 8);", sharer.unmap(child, 0, 8));
        line("sharer.exit(child);", sharer.exit(child));
        line("sharer.fork(child);", sharer.fork(child));
    }

    /** The lines of the example, without what a comment says after the answer. */
    private static List<String> written() throws IOException {
        List<String> lines = new ArrayList<>();
        boolean inside = false;
        for (String text : Files.readAllLines(Path.of("README.md"))) {
            if (text.startsWith("```")) {
                inside = text.equals("```java");
            } else if (inside) {
                lines.add(text.replaceAll(" +//", " //").replaceAll("(// [^:]*):.*", "$1"));
            }
        }
        return lines;
    }

    public static void main(String[] args) throws IOException {
        example();
        List<String> written = written();
        if (!written.equals(called)) {
            System.out.println("README.md has the example " + written + ", due is " + called);
            System.exit(1);
        }
        System.out.println("the example is as due");
    }
}
