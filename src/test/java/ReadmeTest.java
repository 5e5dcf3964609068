import java.io.IOException;
import java.nio.file.Files;
import java.nio.file.Path;

/** The answers that README.md tells, and that it names every call and every test. */
final class ReadmeTest {
    public static void main(String[] args) throws IOException {
        exampleAnswersAsItSays();
        everyCallAndTestIsNamed(Files.readString(Path.of("README.md")));
        Check.end();
    }

    private static void exampleAnswersAsItSays() {
        HopperCourt court = new HopperCourt();
        court.begin(1 << 0 | 1 << 3);
        Check.due("move(6, 14)", court.move(6, 14), 0);
        Check.due("turn()", court.turn(), 3);
        Check.due("hops(115, 102)", court.hops(115, 102), 1);
        Check.due("chainAt(115, 102, 0)", court.chainAt(115, 102, 0), 102);
        court.move(court.bestFrom(), court.bestTo());
        Check.due("way(3)", court.way(3), 118);
        Check.due("undo()", court.undo(), 1);
        Check.due("at(115)", court.at(115), 3);
    }

    private static void everyCallAndTestIsNamed(String text) throws IOException {
        for (String call : FaceTest.calls()) {
            Check.due("README.md names " + call, text.contains("`" + call + "("), true);
        }
        try (var files = Files.list(Path.of("src/test/java"))) {
            for (Path file : files.toList()) {
                String name = file.getFileName().toString().replace(".java", "");
                if (name.endsWith("Test")) {
                    Check.due("README.md names " + name, text.contains("| " + name + " |"), true);
                }
            }
        }
    }
}
