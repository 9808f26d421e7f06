import java.io.IOException;
import java.nio.file.Files;
import java.nio.file.Path;

/** The example of README.md: its lines stand there, and answer as it says. */
public final class ReadmeTest {
    private static final Check check = new Check("ReadmeTest");

    public static void main(String[] args) throws IOException {
        example(Files.readString(Path.of("README.md")));
        check.end();
    }

    private static void example(String readme) {
        CallGraphs g = new CallGraphs();
        int shape = due(readme, "int shape = g.type(2, CallGraphs.NONE);", g.type(2, CallGraphs.NONE), 0);
        int disc = due(readme, "int disc = g.type(0, CallGraphs.NONE);", g.type(0, CallGraphs.NONE), 1);
        due(readme, "g.face(disc, shape);", g.face(disc, shape), 1);
        due(readme, "int draw = g.member(shape, 0, 1);", g.member(shape, 0, 1), 0);
        int drawDisc = due(readme, "int drawDisc = g.member(disc, 0, 0);", g.member(disc, 0, 0), 1);
        int main = due(readme, "int main = g.member(disc, 1, 2);", g.member(disc, 1, 2), 2);
        due(readme, "g.op(main, 0, disc, 0);", g.op(main, 0, disc, 0), 0);
        due(readme, "g.op(main, 1, shape, 0);", g.op(main, 1, shape, 0), 1);
        due(readme, "g.root(main, true);", g.root(main, true), 1);
        due(readme, "g.callee(main, 1, 0);", g.callee(main, 1, 0), drawDisc);
        due(readme, "g.count(4);", g.count(4), 2);
        due(readme, "g.way(drawDisc, 0);", g.way(drawDisc, 0), main);
        due(readme, "g.way(drawDisc, 1);", g.way(drawDisc, 1), drawDisc);
        due(readme, "g.run(7L, 0);", g.run(7L, 0), 2);
        due(readme, "g.face(shape, disc);", g.face(shape, disc), CallGraphs.OUTSIDE);
    }

    private static int due(String readme, String line, int got, int want) {
        check.due("README.md has '" + line + "'", readme.contains(line), true);
        check.due(line, got, want);
        return got;
    }
}
