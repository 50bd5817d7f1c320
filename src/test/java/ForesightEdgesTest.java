/** Promises 22 to 25 at their edges, one method for each that the document names. */
public final class ForesightEdgesTest {
    private static final Checks T = new Checks("ForesightEdgesTest");
    private static final int U = Scenes.U;
    private static final int R = Scenes.R;
    private static final int D = Scenes.D;
    private static final int L = Scenes.L;

    public static void main(String[] args) {
        reaches();
        livesFors();
        livesForsRefused();
        fewests();
        fewestsRefused();
        askingChangesNothing();
        T.close();
    }

    // ---- promise 22: reach

    private static void reaches() {
        reachWithoutAWorm();
        reachOfOneCell();
        reachDoesNotCountTheTail();
        reachOnAFullBoard();
        reachOfADeadWorm();
        reachInOneBlock();
        reachBesideWalls();
        reachOverLinks();
        reachShutInByTheBody();
    }

    private static void reachWithoutAWorm() {
        T.due("no worm: reach()", new Coilworm().reach(), 0);
        T.due("walls alone: reach()", Scenes.wallsAlone().reach(), 0);
        Coilworm x = Scenes.living();
        x.end();
        T.due("a worm taken away: reach()", x.reach(), 0);
    }

    private static void reachOfOneCell() {
        for (int cell = 0; cell < 36; cell++) {
            T.due("one cell on " + cell + ": reach()", Scenes.begun(cell, 0).reach(), 35);
        }
    }

    private static void reachDoesNotCountTheTail() {
        Coilworm x = Scenes.begun(0, 1);
        x.step(R);
        T.due("two cells that owe nothing: reach()", x.reach(), 34);
    }

    private static void reachOnAFullBoard() {
        T.due("all cells: reach()", Scenes.filled().reach(), 0);
        T.due("all cells, and it grows: reach()", Scenes.overfilled().reach(), 0);
        Coilworm x = Scenes.inOneBlock(3);
        Scenes.steps(x, R, D);
        T.due("three of four: reach()", x.reach(), 1);
        x.step(L);
        T.due("four of four: reach()", x.reach(), 0);
    }

    private static void reachOfADeadWorm() {
        T.due("a dead worm: reach()", Scenes.dead().reach(), 34);
        Coilworm x = Scenes.overfilled();
        x.step(U);
        T.due("a dead worm on all cells: reach()", x.reach(), 0);
    }

    private static void reachInOneBlock() {
        int[] lowest = {0, 2, 4, 12, 14, 16, 24, 26, 28};
        for (int block = 0; block < 9; block++) {
            Coilworm x = Scenes.open(block);
            x.begin(lowest[block], 0);
            T.due("the block " + block + ": reach()", x.reach(), 3);
        }
    }

    private static void reachBesideWalls() {
        Coilworm x = Scenes.open(0, 1, 8);
        x.begin(0, 0);
        T.due("two blocks of three: reach()", x.reach(), 7);
        x.end();
        x.begin(35, 0);
        T.due("one block of three: reach()", x.reach(), 3);
    }

    private static void reachOverLinks() {
        Coilworm x = Scenes.torn();
        x.begin(7, 0);
        T.due("torn, in the block 0: reach()", x.reach(), 3);
        x.end();
        x.begin(8, 0);
        T.due("torn, beside it: reach()", x.reach(), 31);
        // A link that is open, but not in the tree, can be gone over all the same.
        Coilworm y = Scenes.open(0, 1, 3, 4);
        T.due("not in the tree: isInTree(7)", y.isInTree(7), false);
        y.begin(9, 3);
        Scenes.steps(y, L, U, R);
        T.due("over the link 7, that is not in the tree: reach()", y.reach(), 0);
        y.end();
        y.begin(8, 1);
        y.step(R);
        T.due("over all links: reach()", y.reach(), 14);
    }

    private static void reachShutInByTheBody() {
        Coilworm x = Scenes.begun(6, 3);
        Scenes.steps(x, R, U, L);
        T.due("in the corner, all round is body: reach()", x.reach(), 0);
        Coilworm y = Scenes.begun(12, 4);
        Scenes.steps(y, R, U, U, L);
        T.due("one cell is left in the corner: reach()", y.reach(), 1);
    }

    // ---- promise 23: livesFor

    private static void livesFors() {
        livesTheLeast();
        livesTheMost();
        livesForNone();
        livesUntilTheBlockIsFull();
        livesByTheTailThatIsLeft();
        livesOnAFullBoard();
        livesUntilAMealOnAFullBoard();
        livesByAvoidingAMeal();
    }

    private static void dueLives(String name, Coilworm x, String dues) {
        StringBuilder answers = new StringBuilder();
        for (int most = 1; most <= 6; most++) {
            answers.append(most == 1 ? "" : " ").append(x.livesFor(most));
        }
        T.due(name + ": livesFor(1) to livesFor(6)", answers.toString(), dues);
    }

    private static void livesTheLeast() {
        T.due("livesFor(1)", Scenes.begun(14, 20).livesFor(1), 1);
    }

    private static void livesTheMost() {
        dueLives("without walls", Scenes.begun(14, 20), "1 2 3 4 5 6");
        dueLives("in the corner", Scenes.begun(35, 0), "1 2 3 4 5 6");
    }

    private static void livesForNone() {
        dueLives("all cells, and it grows", Scenes.overfilled(), "0 0 0 0 0 0");
        Coilworm x = Scenes.begun(2, 20);
        Scenes.steps(x, D, L, L, U, R);
        dueLives("shut in by the body", x, "0 0 0 0 0 0");
    }

    private static void livesUntilTheBlockIsFull() {
        dueLives("one block, owing 20", Scenes.inOneBlock(20), "1 2 3 3 3 3");
        dueLives("one block, owing 4", Scenes.inOneBlock(4), "1 2 3 3 3 3");
        dueLives("one block, owing 3", Scenes.inOneBlock(3), "1 2 3 4 5 6");
    }

    private static void livesByTheTailThatIsLeft() {
        // In the block 0, with the way out shut behind it: four cells go round and round.
        Coilworm x = Scenes.inOneBlock(3);
        Scenes.steps(x, R, D, L);
        dueLives("one block, full", x, "1 2 3 4 5 6");
    }

    private static void livesOnAFullBoard() {
        dueLives("all cells", Scenes.filled(), "1 2 3 4 5 6");
    }

    private static void livesUntilAMealOnAFullBoard() {
        // Behind the meal it owes 2, and the tail stays.
        dueLives("all cells, the feed 1 away", Scenes.filledWith(0), "1 1 1 1 1 1");
        dueLives("all cells, the feed 3 away", Scenes.filledWith(2), "1 2 3 3 3 3");
        dueLives("all cells, the feed 5 away", Scenes.filledWith(4), "1 2 3 4 5 5");
        dueLives("all cells, the feed 6 away", Scenes.filledWith(5), "1 2 3 4 5 6");
    }

    private static void livesByAvoidingAMeal() {
        // Each meal on the way would make it too long; there and back, it need not eat.
        dueLives("one cell in one block", Scenes.inOneBlock(0, 7, 7, 7), "1 2 3 4 5 6");
        dueLives("three cells in one block, and a meal", Scenes.inOneBlock(2, 1), "1 2 3 4 4 4");
    }

    private static void livesForsRefused() {
        for (int most : new int[] {0, -1, 7, Scenes.LOWEST, Scenes.HIGHEST}) {
            T.argument("livesFor(" + most + ")", Scenes::living, x -> x.livesFor(most));
            T.argument("no worm: livesFor(" + most + ")", Coilworm::new, x -> x.livesFor(most));
            T.argument("a dead worm: livesFor(" + most + ")", Scenes::dead, x -> x.livesFor(most));
        }
        for (int most : new int[] {1, 6}) {
            T.state("no worm: livesFor(" + most + ")", Coilworm::new, x -> x.livesFor(most));
            T.state("a dead worm: livesFor(" + most + ")", Scenes::dead, x -> x.livesFor(most));
        }
    }

    // ---- promises 24 and 25: fewest and fewestByBodies

    private static void fewests() {
        fewestWithoutAFeed();
        fewestOneToSeven();
        fewestFromEachCell();
        fewestOnTheHead();
        fewestRoundWalls();
        fewestOverLinks();
        fewestOfTwoFeeds();
        fewestOfAFullRow();
        fewestOnAFullBoard();
        fewestWhereItDiesFirst();
        fewestBesideTheBody();
        fewestOnTheTail();
        fewestOnTheNeck();
        fewestWithoutACycle();
    }

    private static void dueFewest(String name, Coilworm x, int due) {
        T.due(name + ": fewest()", x.fewest(), due);
        T.due(name + ": fewestByBodies()", x.fewestByBodies(), due);
    }

    private static void fewestWithoutAFeed() {
        dueFewest("no feed", Scenes.begun(14, 0), Coilworm.NONE);
        Coilworm x = Scenes.begun(0, 0, 1);
        x.step(R);
        dueFewest("the only feed is eaten", x, Coilworm.NONE);
    }

    private static void fewestOneToSeven() {
        // Down the left column and along the lowest row, from 0 on.
        int[] cells = {6, 12, 18, 24, 30, 31, 32};
        for (int steps = 1; steps <= 7; steps++) {
            int due = steps < 7 ? steps : Coilworm.NONE;
            dueFewest(steps + " steps", Scenes.begun(0, 0, cells[steps - 1]), due);
            dueFewest(steps + " steps, owing 20", Scenes.begun(0, 20, cells[steps - 1]), due);
        }
    }

    private static void fewestFromEachCell() {
        for (int from = 0; from < 36; from++) {
            for (int to = 0; to < 36; to++) {
                int steps = Math.abs(from / 6 - to / 6) + Math.abs(from % 6 - to % 6);
                int due = from == to ? 2 : steps > 6 ? Coilworm.NONE : steps;
                dueFewest("from " + from + " to " + to, Scenes.begun(from, 0, to), due);
            }
        }
    }

    private static void fewestOnTheHead() {
        int[] dues = {2, 2, 4, 4, 6, 6, Coilworm.NONE, Coilworm.NONE};
        for (int owed = 0; owed < dues.length; owed++) {
            dueFewest("on the head, owing " + owed, Scenes.begun(14, owed, 14), dues[owed]);
        }
        int[] inABlock = {2, 2, 4, 4, Coilworm.NONE};
        for (int owed = 0; owed < inABlock.length; owed++) {
            dueFewest("one block, on the head, owing " + owed, Scenes.inOneBlock(owed, 0), inABlock[owed]);
        }
    }

    private static void fewestRoundWalls() {
        Coilworm x = new Coilworm();
        x.setWall(1, true);
        x.feed(4);
        x.begin(7, 0);
        dueFewest("round a wall, 6 steps", x, 6);
        x.end();
        x.begin(1, 0);
        dueFewest("round a wall, 7 steps", x, Coilworm.NONE);
    }

    private static void fewestOverLinks() {
        Coilworm x = new Coilworm();
        x.setLink(0, Coilworm.NONE);
        x.feed(2);
        x.begin(1, 0);
        dueFewest("round a shut link", x, 5);
        Coilworm y = Scenes.open(0, 1, 3, 4);
        y.feed(14);
        y.begin(8, 0);
        T.due("open, but not in the tree: isInTree(7)", y.isInTree(7), false);
        dueFewest("over a link that is not in the tree", y, 1);
    }

    private static void fewestOfTwoFeeds() {
        dueFewest("the first is farther", Scenes.begun(0, 0, 3, 1), 3);
        dueFewest("the second is too far", Scenes.begun(0, 0, 1, 35), 1);
        dueFewest("the first is too far", Scenes.begun(0, 0, 35, 1), Coilworm.NONE);
    }

    private static void fewestOfAFullRow() {
        Coilworm x = Scenes.fullRow();
        x.begin(7, 0);
        dueFewest("40 feeds", x, 1);
        x.step(U);
        T.due("39 are left", x.feeds(), 39);
        dueFewest("39 feeds, the next one on the head", x, 4);
    }

    private static void fewestOnAFullBoard() {
        int[] cells = {0, 1, 2, 3, 4, 5, 11};
        for (int steps = 1; steps <= 7; steps++) {
            int due = steps < 7 ? steps : Coilworm.NONE;
            dueFewest("all cells, the feed " + steps + " away", Scenes.filledWith(cells[steps - 1]), due);
        }
        dueFewest("all cells, the feed on the head", Scenes.filledWith(6), Coilworm.NONE);
        Coilworm x = Scenes.overfilled();
        x.feed(0);
        dueFewest("all cells, and it grows, the feed on the tail", x, Coilworm.NONE);
    }

    private static void fewestWhereItDiesFirst() {
        Coilworm x = Scenes.begun(2, 20, 35);
        Scenes.steps(x, D, L, L, U, R);
        dueFewest("no step left", x, Coilworm.NONE);
    }

    private static void fewestBesideTheBody() {
        Coilworm x = Scenes.begun(7, 20, 6);
        Scenes.steps(x, U, R, D, D, L);
        // The head is on 13; 7, which lies between it and 6, is the tail and stays.
        dueFewest("beside the body", x, 2);
        x.end();
        x.begin(8, 20);
        Scenes.steps(x, L, D, R);
        // The head is on 14; 6 lies behind 7 and 13, and it has to go round by 20, 19, 18 and 12.
        dueFewest("round the body", x, 5);
    }

    private static void fewestOnTheTail() {
        Coilworm x = Scenes.inOneBlock(3, 0);
        Scenes.steps(x, R, D, L);
        dueFewest("the feed on a tail that is left", x, 1);
        Coilworm y = Scenes.inOneBlock(4, 0);
        Scenes.steps(y, R, D, L);
        dueFewest("the feed on a tail that stays", y, Coilworm.NONE);
    }

    private static void fewestOnTheNeck() {
        // Round a block; when it comes to the neck, that is left just then, or else it has to go farther round.
        int[] dues = {3, 3, 5};
        for (int owed = 0; owed < dues.length; owed++) {
            Coilworm x = Scenes.begun(0, owed + 2);
            Scenes.steps(x, R, R);
            x.feed(1);
            dueFewest("the feed on the neck, owing " + owed, x, dues[owed]);
        }
    }

    private static void fewestWithoutACycle() {
        Coilworm x = Scenes.torn();
        x.feed(7);
        x.begin(0, 0);
        dueFewest("torn, in the block 0", x, 2);
        x.end();
        x.begin(8, 0);
        dueFewest("torn, beside it", x, Coilworm.NONE);
    }

    private static void fewestsRefused() {
        for (Checks.Maker scene : new Checks.Maker[] {Coilworm::new, Scenes::fullRow, Scenes::dead}) {
            T.state("no worm, or a dead one: fewest()", scene, x -> x.fewest());
            T.state("no worm, or a dead one: fewestByBodies()", scene, x -> x.fewestByBodies());
        }
    }

    private static void askingChangesNothing() {
        Checks.Maker[] scenes = {Scenes::living, () -> Scenes.filledWith(0, 1), () -> Scenes.inOneBlock(2, 1, 7, 6, 0)};
        for (Checks.Maker scene : scenes) {
            Coilworm x = scene.make();
            for (int most = 1; most <= 6; most++) {
                x.livesFor(most);
            }
            x.fewest();
            x.fewestByBodies();
            x.reach();
            x.isInOrder();
            T.due("behind asking", Looks.at(x), Looks.at(scene.make()));
        }
    }
}
