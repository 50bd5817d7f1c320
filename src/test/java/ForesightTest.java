/** Promises 22 to 25: reach, livesFor, fewest, fewestByBodies. */
public final class ForesightTest {
    private static final Checks T = new Checks("ForesightTest");
    private static final int U = 0;
    private static final int R = 1;
    private static final int D = 2;
    private static final int L = 3;

    public static void main(String[] args) {
        reach();
        lives();
        livesByEating();
        fewestOnOpenBoard();
        fewestRoundThings();
        fewestSeeksTheFirst();
        T.close();
    }

    private static void steps(Coilworm x, int... directions) {
        for (int direction : directions) {
            T.due("a step lives", x.step(direction) > 0, true);
        }
    }

    private static void reach() {
        Coilworm x = new Coilworm();
        T.due("reach() without a worm", x.reach(), 0);
        x.begin(0, 2);
        T.due("reach() on the open board", x.reach(), 35);
        steps(x, R, D);
        T.due("reach() past three cells", x.reach(), 33);
        x.step(L);
        x.step(U);
        T.due("reach() past three cells in the corner", x.reach(), 33);
        x.step(U);
        T.due("reach() of a dead worm", x.reach(), 33);
        x.end();
        T.due("reach() behind end()", x.reach(), 0);
        x.setWall(4, true);
        x.begin(35, 0);
        T.due("reach() with a wall", x.reach(), 31);
        x.end();
        x.setWall(4, false);
        x.setLink(0, Coilworm.NONE);
        x.setLink(2, Coilworm.NONE);
        x.setLink(4, Coilworm.NONE);
        x.begin(0, 0);
        T.due("reach() on the left", x.reach(), 11);
        x.end();
        x.begin(34, 0);
        T.due("reach() on the right", x.reach(), 23);
        x.end();
        x.setLink(4, 0);
        x.begin(0, 20);
        T.due("reach() by one link", x.reach(), 35);
        steps(x, R, D, D, D, D);
        T.due("reach() past the body", x.reach(), 30);
        steps(x, L, U, U);
        // From 12 one comes to 6 alone: 0, 13 and 18 are body.
        T.due("reach() shut in", x.reach(), 1);
        Coilworm y = Scenes.oneBlock();
        y.begin(0, 3);
        steps(y, R, D, L);
        T.due("reach() with no way out", y.reach(), 0);
    }

    private static void dueLives(String name, Coilworm x, int... dues) {
        for (int most = 1; most <= 6; most++) {
            T.due(name + ": livesFor(" + most + ")", x.livesFor(most), dues[most - 1]);
        }
    }

    private static void lives() {
        Coilworm x = new Coilworm();
        x.begin(14, 20);
        dueLives("the open board", x, 1, 2, 3, 4, 5, 6);
        Coilworm y = Scenes.oneBlock();
        y.begin(0, 20);
        dueLives("one block, growing", y, 1, 2, 3, 3, 3, 3);
        y.end();
        y.begin(0, 4);
        dueLives("one block, owing 4", y, 1, 2, 3, 3, 3, 3);
        y.end();
        y.begin(0, 3);
        dueLives("one block, owing 3", y, 1, 2, 3, 4, 5, 6);
        steps(y, R, D, L);
        dueLives("one block, full", y, 1, 2, 3, 4, 5, 6);
        y.end();
        y.begin(0, 0);
        dueLives("one block, one cell", y, 1, 2, 3, 4, 5, 6);
        Coilworm z = new Coilworm();
        z.begin(7, 20);
        steps(z, U, L, D, D, R);
        z.end();
        z.begin(2, 20);
        steps(z, D, L, L, U, R);
        dueLives("no step left", z, 0, 0, 0, 0, 0, 0);
    }

    private static void livesByEating() {
        Coilworm x = Scenes.oneBlock();
        x.feed(1);
        x.begin(0, 2);
        dueLives("to eat is to grow", x, 1, 2, 3, 4, 4, 4);
        x.end();
        x.begin(0, 0);
        dueLives("one cell, one feed", x, 1, 2, 3, 4, 5, 6);
        Coilworm y = Scenes.oneBlock();
        y.feed(1);
        y.feed(0);
        y.feed(7);
        y.feed(6);
        y.begin(0, 0);
        dueLives("one cell, four feeds", y, 1, 2, 3, 4, 5, 6);
        y.end();
        y.begin(0, 1);
        // Down and back first, and then the feed: the tail is left in time.
        dueLives("two cells, four feeds", y, 1, 2, 3, 4, 5, 6);
        y.end();
        y.begin(0, 2);
        dueLives("three cells, four feeds", y, 1, 2, 3, 4, 4, 4);
    }

    private static void dueFewest(String name, Coilworm x, int due) {
        T.due(name + ": fewest()", x.fewest(), due);
        T.due(name + ": fewestByBodies()", x.fewestByBodies(), due);
    }

    private static void fewestOnOpenBoard() {
        int[][] dues = {{1, 1}, {6, 1}, {7, 2}, {2, 2}, {3, 3}, {14, 4}, {5, 5}, {30, 5}, {21, 6}, {22, -1}, {35, -1}};
        for (int[] due : dues) {
            for (int owed : new int[] {0, 1, 20}) {
                Coilworm x = new Coilworm();
                x.begin(0, owed);
                dueFewest("no feed", x, -1);
                x.feed(due[0]);
                dueFewest("from 0 to " + due[0] + ", owing " + owed, x, due[1]);
            }
        }
        Coilworm y = new Coilworm();
        y.begin(14, 0);
        y.feed(17);
        dueFewest("from the middle", y, 3);
        y.end();
        y.begin(35, 0);
        dueFewest("from the last cell", y, 3);
    }

    private static void fewestRoundThings() {
        Coilworm x = new Coilworm();
        x.setLink(0, Coilworm.NONE);
        x.begin(1, 0);
        x.feed(2);
        dueFewest("round a shut link", x, 5);
        Coilworm y = new Coilworm();
        y.setWall(1, true);
        y.feed(4);
        y.begin(1, 0);
        dueFewest("round a wall, 7 steps", y, -1);
        y.end();
        y.begin(7, 0);
        dueFewest("round a wall, 6 steps", y, 6);
        Coilworm z = new Coilworm();
        z.feed(0);
        z.begin(2, 20);
        steps(z, D, L, U);
        dueFewest("past the body", z, 1);
        z.end();
        z.begin(0, 20);
        steps(z, R, R, D, L);
        // 7 is the head; 0 is body that stays.
        dueFewest("on the body", z, -1);
        Coilworm w = Scenes.oneBlock();
        w.feed(0);
        w.begin(0, 3);
        steps(w, R, D, L);
        dueFewest("on the tail that is left", w, 1);
        w.end();
        w.begin(0, 4);
        steps(w, R, D, L);
        dueFewest("on the tail that stays", w, -1);
    }

    private static void fewestSeeksTheFirst() {
        Coilworm x = new Coilworm();
        x.begin(0, 0);
        x.feed(3);
        x.feed(1);
        dueFewest("the first is farther", x, 3);
        steps(x, R, R, R);
        dueFewest("the second one then", x, 2);
        steps(x, L, L);
        dueFewest("none left", x, -1);
    }
}
