import java.io.IOException;
import java.nio.file.Files;
import java.nio.file.Path;
import java.util.ArrayList;
import java.util.List;

/** The calls that README.md shows are made in their order, and answer what stands behind them there. */
public final class ReadmeTest {
    private static final Checks T = new Checks("ReadmeTest");
    private static final Coilworm GAME = new Coilworm();
    private static final List<String> SHOWN = new ArrayList<>();
    private static int next;

    public static void main(String[] args) throws IOException {
        for (String line : Files.readAllLines(Path.of("README.md"))) {
            if (line.startsWith("game.")) {
                SHOWN.add(line);
            }
        }
        board();
        worm();
        T.due("calls that README.md shows", SHOWN.size(), next);
        T.close();
    }

    private static void board() {
        due("setWall(4, true)", GAME.setWall(4, true));
        due("setLink(0, 5)", GAME.setLink(0, 5));
        due("hasCycle()", GAME.hasCycle());
        due("cellAt(31)", GAME.cellAt(31));
        due("placeOf(14)", GAME.placeOf(14));
    }

    private static void worm() {
        due("feed(3)", GAME.feed(3));
        due("feed(30)", GAME.feed(30));
        GAME.begin(0, 2);
        dueLine("begin(0, 2)", "a worm of one cell");
        due("step(1)", GAME.step(1));
        due("bodyAt(0)", GAME.bodyAt(0));
        due("isSafe(2)", GAME.isSafe(2));
        due("livesFor(6)", GAME.livesFor(6));
        due("fewest()", GAME.fewest());
        due("play(50)", GAME.play(50));
        due("feeds()", GAME.feeds());
        due("step(3)", GAME.step(3));
        due("length()", GAME.length());
        due("end()", GAME.end());
    }

    private static void due(String call, Object answer) {
        dueLine(call, answer + ":");
    }

    private static void dueLine(String call, String beginning) {
        String line = next < SHOWN.size() ? SHOWN.get(next) : "";
        next++;
        T.due(call + " is told", line.startsWith("game." + call + ";"), true);
        T.due(call + " answers '" + beginning + "' as told in: " + line, line.contains("// " + beginning), true);
    }
}
