/** Promises 10 to 13 and 15 to 19: begin, end, feed, step, and what is asked of the worm. */
public final class WormTest {
    private static final Checks T = new Checks("WormTest");
    private static final int U = 0;
    private static final int R = 1;
    private static final int D = 2;
    private static final int L = 3;

    public static void main(String[] args) {
        begins();
        ends();
        feeds();
        growsAndMoves();
        eats();
        eatsOnlyTheFirst();
        eatsALongRow();
        diesAtTheRim();
        diesAtWallsAndShutLinks();
        diesOfItself();
        followsItsTail();
        goesFar();
        T.close();
    }

    private static void dueWorm(String name, Coilworm x, String body, int owed, int feeds) {
        T.due(name + ": body", Scenes.body(x), body);
        T.due(name + ": owed()", x.owed(), owed);
        T.due(name + ": feeds()", x.feeds(), feeds);
    }

    private static void begins() {
        Coilworm x = new Coilworm();
        x.begin(14, 3);
        T.due("isAlive()", x.isAlive(), true);
        T.due("length()", x.length(), 1);
        dueWorm("begin(14, 3)", x, "14", 3, 0);
        Coilworm y = new Coilworm();
        y.feed(35);
        y.begin(35, 20);
        dueWorm("begin(35, 20) on a feed does not eat it", y, "35", 20, 1);
        Coilworm z = new Coilworm();
        z.setLink(0, Coilworm.NONE);
        z.setLink(6, Coilworm.NONE);
        z.begin(0, 0);
        dueWorm("begin(0, 0) without a cycle", z, "0", 0, 0);
    }

    private static void ends() {
        Coilworm x = new Coilworm();
        x.begin(0, 2);
        T.due("three steps", Scenes.steps(x, R, R, R), "2 3 3");
        x.feed(35);
        T.due("end()", x.end(), 3);
        T.due("isAlive()", x.isAlive(), false);
        T.due("length()", x.length(), 0);
        dueWorm("behind end()", x, "", 0, 1);
        T.due("isInOrder()", x.isInOrder(), false);
        T.due("reach()", x.reach(), 0);
        x.begin(2, 7);
        T.due("isAlive() of the next one", x.isAlive(), true);
        dueWorm("the next one", x, "2", 7, 1);
        T.due("a step into the rim", Scenes.steps(x, U), "0");
        T.due("owed() of the dead one", x.owed(), 7);
        T.due("end() of the dead one", x.end(), 1);
        T.due("owed()", x.owed(), 0);
        x.begin(3, 0);
        T.due("isAlive() of the one behind the dead one", x.isAlive(), true);
        T.due("where the first one was", Scenes.steps(x, L, L, L), "1 1 1");
    }

    private static void feeds() {
        Coilworm x = new Coilworm();
        x.setWall(0, true);
        T.due("feeds()", x.feeds(), 0);
        for (int count = 1; count <= 40; count++) {
            T.due("feed() number " + count, x.feed(count < 39 ? 35 : 2), count);
            T.due("feeds()", x.feeds(), count);
        }
        x.begin(34, 0);
        T.due("eating one", Scenes.steps(x, R), "1");
        T.due("feeds()", x.feeds(), 39);
        T.due("feed(20) again", x.feed(20), 40);
    }

    private static void growsAndMoves() {
        Coilworm x = new Coilworm();
        x.begin(14, 2);
        T.due("steps", Scenes.steps(x, R), "2");
        dueWorm("one step", x, "15 14", 1, 0);
        T.due("steps", Scenes.steps(x, D), "3");
        dueWorm("two steps", x, "21 15 14", 0, 0);
        T.due("steps", Scenes.steps(x, L), "3");
        dueWorm("three steps", x, "20 21 15", 0, 0);
        T.due("steps", Scenes.steps(x, D, R), "3 3");
        dueWorm("five steps", x, "27 26 20", 0, 0);
        Coilworm y = new Coilworm();
        y.begin(14, 0);
        T.due("up", Scenes.steps(y, U), "1");
        dueWorm("up", y, "8", 0, 0);
        T.due("isAlive()", y.isAlive(), true);
    }

    private static void eats() {
        Coilworm x = new Coilworm();
        x.feed(1);
        x.feed(3);
        x.begin(0, 0);
        T.due("steps", Scenes.steps(x, R), "1");
        dueWorm("the meal grows later", x, "1", 2, 1);
        T.due("steps", Scenes.steps(x, R, R), "2 3");
        dueWorm("the second meal", x, "3 2 1", 2, 0);
        T.due("steps", Scenes.steps(x, R, R, D), "4 5 5");
        dueWorm("behind both", x, "11 5 4 3 2", 0, 0);
        Coilworm y = new Coilworm();
        y.begin(0, 20);
        y.feed(6);
        T.due("steps", Scenes.steps(y, D), "2");
        dueWorm("1 less and 2 more", y, "6 0", 21, 0);
    }

    private static void eatsOnlyTheFirst() {
        Coilworm x = new Coilworm();
        x.feed(2);
        x.feed(1);
        x.feed(2);
        x.feed(2);
        x.begin(0, 0);
        T.due("steps", Scenes.steps(x, R), "1");
        dueWorm("past the second feed", x, "1", 0, 4);
        T.due("steps", Scenes.steps(x, R), "1");
        dueWorm("the first one", x, "2", 2, 3);
        T.due("steps", Scenes.steps(x, D, L, U), "2 3 3");
        dueWorm("then the second one", x, "1 7 8", 2, 2);
        T.due("steps", Scenes.steps(x, R), "4");
        dueWorm("one of two on a cell", x, "2 1 7 8", 3, 1);
    }

    private static void eatsALongRow() {
        int[] path = {R, R, R, R, R, D, L, L, L, L, D, R, R, R, R, D, L, L, L, L, D, R, R, R, R};
        int[] cells = {1, 2, 3, 4, 5, 11, 10, 9, 8, 7, 13, 14, 15, 16, 17, 23, 22, 21, 20, 19, 25, 26, 27, 28, 29};
        Coilworm x = new Coilworm();
        for (int cell : cells) {
            x.feed(cell);
        }
        x.begin(0, 0);
        for (int i = 0; i < path.length; i++) {
            T.due("length behind the meal " + i, x.step(path[i]), i + 1);
            T.due("feeds() behind the meal " + i, x.feeds(), cells.length - 1 - i);
            T.due("owed() behind the meal " + i, x.owed(), i + 2);
            T.due("livesFor(6) lives", x.livesFor(6), 6);
        }
        x.end();
        for (int cell : cells) {
            x.feed(cell);
        }
        // The worm's foreseen walks eat from a row that begins in the middle of its room, and put back.
        x.begin(0, 0);
        for (int i = 0; i < path.length; i++) {
            x.livesFor(6);
            x.fewest();
            x.fewestByBodies();
            T.due("length behind the meal " + i + " of the second row", x.step(path[i]), i + 1);
            T.due("feeds() of the second row", x.feeds(), cells.length - 1 - i);
        }
    }

    private static void dueDeath(String name, Coilworm x, int direction) {
        String body = Scenes.body(x);
        int owed = x.owed();
        int feeds = x.feeds();
        T.due(name, x.step(direction), 0);
        T.due(name + ": isAlive()", x.isAlive(), false);
        dueWorm(name, x, body, owed, feeds);
    }

    private static void diesAtTheRim() {
        int[][] ways = {{0, U}, {5, U}, {5, R}, {11, R}, {35, R}, {35, D}, {30, D}, {30, L}, {6, L}, {12, L}, {0, L}};
        for (int[] way : ways) {
            Coilworm x = new Coilworm();
            x.feed(way[0]);
            x.begin(way[0], 4);
            dueDeath("the rim at " + way[0] + " to " + way[1], x, way[1]);
        }
    }

    private static void diesAtWallsAndShutLinks() {
        Coilworm x = new Coilworm();
        x.setWall(4, true);
        int[][] ways = {{8, D}, {9, D}, {13, R}, {19, R}, {16, L}, {22, L}, {26, U}, {27, U}};
        for (int[] way : ways) {
            x.begin(way[0], 1);
            dueDeath("the wall from " + way[0], x, way[1]);
            x.end();
        }
        int[][] ends = {{1, R, 2}, {9, R, 10}, {13, R, 14}, {21, R, 22}, {25, R, 26}, {33, R, 34},
            {6, D, 12}, {9, D, 15}, {11, D, 17}, {18, D, 24}, {20, D, 26}, {23, D, 29}};
        for (int link = 0; link < 12; link++) {
            Coilworm y = new Coilworm();
            int from = ends[link][0];
            int to = ends[link][2];
            int direction = ends[link][1];
            y.setLink(link, 9);
            y.begin(from, 0);
            T.due("over the link " + link, y.step(direction), 1);
            T.due("back over the link " + link, y.step((direction + 2) % 4), 1);
            y.end();
            y.setLink(link, Coilworm.NONE);
            y.begin(from, 0);
            dueDeath("the shut link " + link, y, direction);
            y.end();
            y.begin(to, 0);
            dueDeath("the shut link " + link + " back", y, (direction + 2) % 4);
        }
    }

    private static void diesOfItself() {
        Coilworm x = new Coilworm();
        x.begin(0, 20);
        T.due("steps", Scenes.steps(x, R, D), "2 3");
        x.feed(1);
        dueDeath("back on its neck", x, U);
        Coilworm y = new Coilworm();
        y.begin(0, 4);
        T.due("steps", Scenes.steps(y, R, D, L), "2 3 4");
        dueDeath("on the tail that stays", y, U);
        Coilworm z = new Coilworm();
        z.begin(0, 2);
        T.due("steps", Scenes.steps(z, R), "2");
        dueDeath("two cells, and it grows", z, L);
    }

    private static void followsItsTail() {
        Coilworm x = new Coilworm();
        x.begin(0, 3);
        T.due("steps", Scenes.steps(x, R, D, L), "2 3 4");
        dueWorm("round", x, "6 7 1 0", 0, 0);
        T.due("on the tail that is left", Scenes.steps(x, U), "4");
        dueWorm("round", x, "0 6 7 1", 0, 0);
        Coilworm y = new Coilworm();
        y.begin(0, 1);
        T.due("two cells turn", Scenes.steps(y, R, L, R), "2 2 2");
        dueWorm("two cells", y, "1 0", 0, 0);
    }

    private static void goesFar() {
        Coilworm x = Scenes.open(0);
        x.begin(0, 2);
        for (int round = 0; round < 40; round++) {
            T.due("round " + round, Scenes.steps(x, R, D, L, U), round == 0 ? "2 3 3 3" : "3 3 3 3");
        }
        dueWorm("behind 160 steps", x, "0 6 7", 0, 0);
        Coilworm y = Scenes.open(0);
        y.begin(0, 0);
        for (int round = 0; round < 70; round++) {
            y.feed(round % 2 == 0 ? 1 : 0);
            T.due("meal", y.step(round % 2 == 0 ? R : L) > 0, true);
            T.due("feeds()", y.feeds(), 0);
            T.due("owed()", y.owed(), 2);
            int cell = y.bodyAt(0);
            y.end();
            y.begin(cell, 0);
        }
    }
}
