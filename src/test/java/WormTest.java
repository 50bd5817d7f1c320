/** Promises 10 to 13 and 15 to 19: begin, end, feed, step, and what is asked of the worm. */
public final class WormTest {
    private static final Checks T = new Checks("WormTest");
    private static final int U = 0;
    private static final int R = 1;
    private static final int D = 2;
    private static final int L = 3;

    public static void main(String[] args) {
        begins();
        ends();
        growsAndMoves();
        eats();
        eatsOnlyTheFirst();
        eatsALongRow();
        goesFar();
        T.close();
    }

    private static void dueWorm(String name, Coilworm x, String body, int owed, int feeds) {
        T.due(name + ": body", Scenes.body(x), body);
        T.due(name + ": owed()", x.owed(), owed);
        T.due(name + ": feeds()", x.feeds(), feeds);
    }

    private static void begins() {
        Coilworm x = new Coilworm();
        x.begin(14, 3);
        T.due("isAlive()", x.isAlive(), true);
        T.due("length()", x.length(), 1);
        dueWorm("begin(14, 3)", x, "14", 3, 0);
        Coilworm y = new Coilworm();
        y.feed(35);
        y.begin(35, 20);
        dueWorm("begin(35, 20) on a feed does not eat it", y, "35", 20, 1);
        Coilworm z = new Coilworm();
        z.setLink(0, Coilworm.NONE);
        z.setLink(6, Coilworm.NONE);
        z.begin(0, 0);
        dueWorm("begin(0, 0) without a cycle", z, "0", 0, 0);
    }

    private static void ends() {
        Coilworm x = new Coilworm();
        x.begin(0, 2);
        T.due("three steps", Scenes.steps(x, R, R, R), "2 3 3");
        x.feed(35);
        T.due("end()", x.end(), 3);
        T.due("isAlive()", x.isAlive(), false);
        T.due("length()", x.length(), 0);
        dueWorm("behind end()", x, "", 0, 1);
        T.due("isInOrder()", x.isInOrder(), false);
        T.due("reach()", x.reach(), 0);
        x.begin(2, 7);
        T.due("isAlive() of the next one", x.isAlive(), true);
        dueWorm("the next one", x, "2", 7, 1);
        T.due("a step into the rim", Scenes.steps(x, U), "0");
        T.due("owed() of the dead one", x.owed(), 7);
        T.due("end() of the dead one", x.end(), 1);
        T.due("owed()", x.owed(), 0);
        x.begin(3, 0);
        T.due("isAlive() of the one behind the dead one", x.isAlive(), true);
        T.due("where the first one was", Scenes.steps(x, L, L, L), "1 1 1");
    }

    private static void growsAndMoves() {
        Coilworm x = new Coilworm();
        x.begin(14, 2);
        T.due("steps", Scenes.steps(x, R), "2");
        dueWorm("one step", x, "15 14", 1, 0);
        T.due("steps", Scenes.steps(x, D), "3");
        dueWorm("two steps", x, "21 15 14", 0, 0);
        T.due("steps", Scenes.steps(x, L), "3");
        dueWorm("three steps", x, "20 21 15", 0, 0);
        T.due("steps", Scenes.steps(x, D, R), "3 3");
        dueWorm("five steps", x, "27 26 20", 0, 0);
        Coilworm y = new Coilworm();
        y.begin(14, 0);
        T.due("up", Scenes.steps(y, U), "1");
        dueWorm("up", y, "8", 0, 0);
        T.due("isAlive()", y.isAlive(), true);
    }

    private static void eats() {
        Coilworm x = new Coilworm();
        x.feed(1);
        x.feed(3);
        x.begin(0, 0);
        T.due("steps", Scenes.steps(x, R), "1");
        dueWorm("the meal grows later", x, "1", 2, 1);
        T.due("steps", Scenes.steps(x, R, R), "2 3");
        dueWorm("the second meal", x, "3 2 1", 2, 0);
        T.due("steps", Scenes.steps(x, R, R, D), "4 5 5");
        dueWorm("behind both", x, "11 5 4 3 2", 0, 0);
        Coilworm y = new Coilworm();
        y.begin(0, 20);
        y.feed(6);
        T.due("steps", Scenes.steps(y, D), "2");
        dueWorm("1 less and 2 more", y, "6 0", 21, 0);
    }

    private static void eatsOnlyTheFirst() {
        Coilworm x = new Coilworm();
        x.feed(2);
        x.feed(1);
        x.feed(2);
        x.feed(2);
        x.begin(0, 0);
        T.due("steps", Scenes.steps(x, R), "1");
        dueWorm("past the second feed", x, "1", 0, 4);
        T.due("steps", Scenes.steps(x, R), "1");
        dueWorm("the first one", x, "2", 2, 3);
        T.due("steps", Scenes.steps(x, D, L, U), "2 3 3");
        dueWorm("then the second one", x, "1 7 8", 2, 2);
        T.due("steps", Scenes.steps(x, R), "4");
        dueWorm("one of two on a cell", x, "2 1 7 8", 3, 1);
    }

    private static void eatsALongRow() {
        int[] path = {R, R, R, R, R, D, L, L, L, L, D, R, R, R, R, D, L, L, L, L, D, R, R, R, R};
        int[] cells = {1, 2, 3, 4, 5, 11, 10, 9, 8, 7, 13, 14, 15, 16, 17, 23, 22, 21, 20, 19, 25, 26, 27, 28, 29};
        Coilworm x = new Coilworm();
        for (int cell : cells) {
            x.feed(cell);
        }
        x.begin(0, 0);
        for (int i = 0; i < path.length; i++) {
            T.due("length behind the meal " + i, x.step(path[i]), i + 1);
            T.due("feeds() behind the meal " + i, x.feeds(), cells.length - 1 - i);
            T.due("owed() behind the meal " + i, x.owed(), i + 2);
            T.due("livesFor(6) lives", x.livesFor(6), 6);
        }
        x.end();
        for (int cell : cells) {
            x.feed(cell);
        }
        // The worm's foreseen walks eat from a row that begins in the middle of its room, and put back.
        x.begin(0, 0);
        for (int i = 0; i < path.length; i++) {
            x.livesFor(6);
            x.fewest();
            x.fewestByBodies();
            T.due("length behind the meal " + i + " of the second row", x.step(path[i]), i + 1);
            T.due("feeds() of the second row", x.feeds(), cells.length - 1 - i);
        }
    }

    private static void goesFar() {
        Coilworm x = Scenes.open(0);
        x.begin(0, 2);
        for (int round = 0; round < 40; round++) {
            T.due("round " + round, Scenes.steps(x, R, D, L, U), round == 0 ? "2 3 3 3" : "3 3 3 3");
        }
        dueWorm("behind 160 steps", x, "0 6 7", 0, 0);
        Coilworm y = Scenes.open(0);
        y.begin(0, 0);
        for (int round = 0; round < 70; round++) {
            y.feed(round % 2 == 0 ? 1 : 0);
            T.due("meal", y.step(round % 2 == 0 ? R : L) > 0, true);
            T.due("feeds()", y.feeds(), 0);
            T.due("owed()", y.owed(), 2);
            int cell = y.bodyAt(0);
            y.end();
            y.begin(cell, 0);
        }
    }
}
