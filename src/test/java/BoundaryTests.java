import java.io.IOException;
import java.nio.file.Files;
import java.nio.file.Path;

/** Each sentence of the document that names a boundary case has a test of its own here, which names its promise. */
public final class BoundaryTests {
    public static void main(String[] args) throws IOException {
        Path root = Path.of(System.getProperty("project.root", "."));
        Desk desk = new Desk(Files.readString(root.resolve("../shared/DOC.md")));
        EdgesOfMarks.run(desk);
        EdgesOfTimes.run(desk);
        EdgesOfLaws.run(desk);
        EdgesOfRuns.run(desk);
        EdgesOfTapes.run(desk);
        EdgesOfRefusals.run(desk);
        desk.end();
    }
}
