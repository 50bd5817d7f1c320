/** Promise 13, step, at its edges, one method for each that the document names. */
public final class StepEdgesTest {
    private static final Checks T = new Checks("StepEdgesTest");
    private static final int U = Scenes.U;
    private static final int R = Scenes.R;
    private static final int D = Scenes.D;
    private static final int L = Scenes.L;

    public static void main(String[] args) {
        allDirections();
        directionsOutOfRange();
        withoutAWorm();
        withADeadWorm();
        theDirectionIsRefusedFirst();
        rim();
        walls();
        shutLinks();
        ontoTheNeck();
        ontoTheTailThatIsLeft();
        ontoTheTailThatStays();
        twoCellsTurn();
        owingRunsOut();
        fillsTheBoard();
        goesOnWhenTheBoardIsFull();
        diesWhenTheBoardIsFull();
        eatsOnTheTailThatIsLeft();
        eatsTheLastFeed();
        eatsFromAFullRow();
        eatsOneOfTwoOnACell();
        eatsNotTheSecond();
        overTheLastPlaceToTheFirst();
        T.close();
    }

    private static void dueDeath(String name, Checks.Maker scene, int direction) {
        Coilworm x = scene.make();
        String before = Scenes.worm(x);
        T.due(name + ": step(" + direction + ")", x.step(direction), 0);
        T.due(name + ": isAlive()", x.isAlive(), false);
        T.due(name + ": behind the death", Scenes.worm(x), before);
    }

    private static void allDirections() {
        int[] heads = {8, 15, 20, 13};
        for (int direction = 0; direction < 4; direction++) {
            Coilworm x = Scenes.begun(14, 1);
            T.due("step(" + direction + ")", x.step(direction), 2);
            T.due("behind step(" + direction + ")", Scenes.worm(x), heads[direction] + " 14 +0 feeds 0");
        }
    }

    private static void directionsOutOfRange() {
        for (int direction : new int[] {-1, 4, Scenes.LOWEST, Scenes.HIGHEST}) {
            T.range("step(" + direction + ")", Scenes::living, x -> x.step(direction));
            T.range("a worm on all cells: step(" + direction + ")", Scenes::filled, x -> x.step(direction));
        }
    }

    private static void withoutAWorm() {
        for (int direction = 0; direction < 4; direction++) {
            int there = direction;
            T.state("no worm: step(" + direction + ")", Coilworm::new, x -> x.step(there));
        }
    }

    private static void withADeadWorm() {
        for (int direction = 0; direction < 4; direction++) {
            int there = direction;
            T.state("a dead worm: step(" + direction + ")", Scenes::dead, x -> x.step(there));
        }
    }

    private static void theDirectionIsRefusedFirst() {
        for (int direction : new int[] {-1, 4}) {
            T.range("no worm: step(" + direction + ")", Coilworm::new, x -> x.step(direction));
            T.range("a dead worm: step(" + direction + ")", Scenes::dead, x -> x.step(direction));
        }
    }

    private static void rim() {
        for (int along = 0; along < 6; along++) {
            int top = along;
            int side = 6 * along;
            dueDeath("the upper rim at " + top, () -> Scenes.begun(top, 2), U);
            dueDeath("the right rim at " + (side + 5), () -> Scenes.begun(side + 5, 2), R);
            dueDeath("the lower rim at " + (30 + top), () -> Scenes.begun(30 + top, 2), D);
            dueDeath("the left rim at " + side, () -> Scenes.begun(side, 2), L);
        }
    }

    private static void walls() {
        int[][] ways = {{8, D}, {9, D}, {13, R}, {19, R}, {16, L}, {22, L}, {26, U}, {27, U}};
        for (int[] way : ways) {
            dueDeath("a wall from " + way[0], () -> {
                Coilworm x = new Coilworm();
                x.setWall(4, true);
                x.begin(way[0], 2);
                return x;
            }, way[1]);
        }
    }

    /** Both cells at each side of each link, there and back. */
    private static void shutLinks() {
        int[][] upper = {{1, 7}, {3, 9}, {13, 19}, {15, 21}, {25, 31}, {27, 33},
            {6, 7}, {8, 9}, {10, 11}, {18, 19}, {20, 21}, {22, 23}};
        for (int link = 0; link < 12; link++) {
            for (int from : upper[link]) {
                int shut = link;
                int direction = link < 6 ? R : D;
                int to = link < 6 ? from + 1 : from + 6;
                Coilworm x = Scenes.begun(from, 0);
                T.due("over the open link " + link, x.step(direction), 1);
                T.due("back over the open link " + link, x.step((direction + 2) % 4), 1);
                T.due("there again", Scenes.worm(x), from + " +0 feeds 0");
                dueDeath("over the shut link " + link, () -> shut(shut, from), direction);
                dueDeath("back over the shut link " + link, () -> shut(shut, to), (direction + 2) % 4);
            }
        }
    }

    private static Coilworm shut(int link, int cell) {
        Coilworm x = new Coilworm();
        x.setLink(link, Coilworm.NONE);
        x.begin(cell, 0);
        return x;
    }

    private static void ontoTheNeck() {
        dueDeath("three cells, the neck", () -> {
            Coilworm x = Scenes.begun(0, 2);
            Scenes.steps(x, R, R);
            return x;
        }, L);
    }

    private static void ontoTheTailThatIsLeft() {
        Coilworm x = Scenes.begun(0, 3);
        T.due("round the block 0", Scenes.steps(x, R, D, L, U), "2 3 4 4");
        T.due("behind that", Scenes.worm(x), "0 6 7 1 +0 feeds 0");
    }

    private static void ontoTheTailThatStays() {
        dueDeath("round the block 0, and it grows", () -> {
            Coilworm x = Scenes.begun(0, 4);
            Scenes.steps(x, R, D, L);
            return x;
        }, U);
    }

    private static void twoCellsTurn() {
        Coilworm x = Scenes.begun(0, 1);
        T.due("two cells turn", Scenes.steps(x, R, L), "2 2");
        T.due("behind that", Scenes.worm(x), "0 1 +0 feeds 0");
        dueDeath("two cells turn, and grow", () -> {
            Coilworm y = Scenes.begun(0, 2);
            y.step(R);
            return y;
        }, L);
    }

    private static void owingRunsOut() {
        Coilworm x = Scenes.begun(0, 1);
        T.due("owed 1: step(1)", x.step(R), 2);
        T.due("owed 1, behind it", Scenes.worm(x), "1 0 +0 feeds 0");
        T.due("owed 0: step(1)", x.step(R), 2);
        T.due("owed 0, behind it", Scenes.worm(x), "2 1 +0 feeds 0");
    }

    private static void fillsTheBoard() {
        Coilworm x = new Coilworm();
        for (int place = 1; place <= 8; place++) {
            x.feed(Scenes.CELLS[place]);
        }
        x.begin(0, 19);
        for (int place = 0; place < 35; place++) {
            T.due("to fill the board, step " + place, x.step(Scenes.ROUND[place]), place + 2);
        }
        T.due("all cells: owed()", x.owed(), 0);
        T.due("all cells: reach()", x.reach(), 0);
    }

    private static void goesOnWhenTheBoardIsFull() {
        Coilworm x = Scenes.filled();
        for (int place = 35; place < 35 + 72; place++) {
            T.due("all cells, step from the place " + place, x.step(Scenes.ROUND[place % 36]), 36);
        }
        T.due("all cells, twice round", Looks.at(x), Looks.at(Scenes.filled()));
    }

    private static void diesWhenTheBoardIsFull() {
        for (int direction = 0; direction < 4; direction++) {
            dueDeath("all cells, and it grows", Scenes::overfilled, direction);
        }
        for (int direction : new int[] {R, D, L}) {
            dueDeath("all cells, away from the tail", Scenes::filled, direction);
        }
    }

    private static void eatsOnTheTailThatIsLeft() {
        Coilworm x = Scenes.filled();
        x.feed(0);
        T.due("all cells, a feed on the tail", x.step(U), 36);
        T.due("it owes", x.owed(), 2);
        T.due("the feed is gone", x.feeds(), 0);
        T.due("the next step", x.step(R), 0);
    }

    private static void eatsTheLastFeed() {
        Coilworm x = Scenes.begun(0, 0);
        x.feed(1);
        T.due("the step to the feed", x.step(R), 1);
        T.due("behind the meal", Scenes.worm(x), "1 +2 feeds 0");
        T.due("steps behind the meal", Scenes.steps(x, R, R, R), "2 3 3");
        T.due("grown by 2", Scenes.worm(x), "4 3 2 +0 feeds 0");
    }

    private static void eatsFromAFullRow() {
        Coilworm x = Scenes.fullRow();
        x.begin(0, 0);
        T.due("the step to the first of 40", x.step(R), 1);
        T.due("behind the meal", Scenes.worm(x), "1 +2 feeds 39");
    }

    private static void eatsOneOfTwoOnACell() {
        Coilworm x = Scenes.begun(0, 0);
        x.feed(1);
        x.feed(1);
        T.due("the step to both", x.step(R), 1);
        T.due("one is left", Scenes.worm(x), "1 +2 feeds 1");
    }

    private static void eatsNotTheSecond() {
        Coilworm x = Scenes.begun(0, 0);
        x.feed(2);
        x.feed(1);
        T.due("the step to the second", x.step(R), 1);
        T.due("both are left", Scenes.worm(x), "1 +0 feeds 2");
        T.due("the step to the first", x.step(R), 1);
        T.due("the second is left", Scenes.worm(x), "2 +2 feeds 1");
    }

    private static void overTheLastPlaceToTheFirst() {
        Coilworm x = Scenes.begun(12, 3);
        T.due("by the places 34, 35, 0 and 1", Scenes.steps(x, U, U, R), "2 3 4");
        T.due("behind that", Scenes.worm(x), "1 0 6 12 +0 feeds 0");
    }
}
