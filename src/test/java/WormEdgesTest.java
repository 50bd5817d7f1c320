/** Promises 10 to 12 and 15 to 19 at their edges, one method for each that the document names. */
public final class WormEdgesTest {
    private static final Checks T = new Checks("WormEdgesTest");
    private static final int U = Scenes.U;
    private static final int R = Scenes.R;
    private static final int D = Scenes.D;
    private static final int L = Scenes.L;

    public static void main(String[] args) {
        begins();
        beginsRefused();
        ends();
        feedsAreTold();
        feedsRefused();
        isAlives();
        lengths();
        oweds();
        bodyAts();
        feedCounts();
        T.close();
    }

    // ---- promise 10: begin

    private static void begins() {
        beginOnTheSmallestCell();
        beginOnTheLargestCell();
        beginOwingNothing();
        beginOwingTheMost();
        beginOnAFeed();
        beginWithoutACycle();
        beginBehindAWorm();
        beginBehindADeadWorm();
    }

    private static void beginOnTheSmallestCell() {
        T.due("begin(0, 1)", Scenes.worm(Scenes.begun(0, 1)), "0 +1 feeds 0");
    }

    private static void beginOnTheLargestCell() {
        T.due("begin(35, 1)", Scenes.worm(Scenes.begun(35, 1)), "35 +1 feeds 0");
    }

    private static void beginOwingNothing() {
        Coilworm x = Scenes.begun(14, 0);
        T.due("begin(14, 0)", Scenes.worm(x), "14 +0 feeds 0");
        T.due("its first step", x.step(R), 1);
    }

    private static void beginOwingTheMost() {
        Coilworm x = Scenes.begun(0, 20);
        T.due("begin(0, 20)", Scenes.worm(x), "0 +20 feeds 0");
        Scenes.round(x, 0, 20);
        T.due("behind 20 steps", x.length() + " +" + x.owed(), "21 +0");
        Scenes.round(x, 20, 1);
        T.due("behind 21 steps", x.length() + " +" + x.owed(), "21 +0");
    }

    private static void beginOnAFeed() {
        Coilworm x = Scenes.fed(14);
        x.begin(14, 3);
        T.due("on a feed, which is not eaten", Scenes.worm(x), "14 +3 feeds 1");
    }

    private static void beginWithoutACycle() {
        Coilworm x = Scenes.torn();
        x.begin(7, 2);
        T.due("without a cycle", Scenes.worm(x), "7 +2 feeds 0");
    }

    private static void beginBehindAWorm() {
        Coilworm x = Scenes.filled();
        x.end();
        x.begin(14, 0);
        T.due("behind a worm on all cells", Scenes.worm(x), "14 +0 feeds 0");
        T.due("cells of the old worm are free", x.reach(), 35);
    }

    private static void beginBehindADeadWorm() {
        Coilworm x = Scenes.dead();
        x.end();
        x.begin(35, 4);
        T.due("isAlive() behind a dead worm", x.isAlive(), true);
        T.due("behind a dead worm", Scenes.worm(x), "35 +4 feeds 1");
    }

    private static void beginsRefused() {
        beginOutOfRange();
        beginOwingOutOfRange();
        beginOnAWall();
        beginOnWallsAlone();
        beginWithAWorm();
        beginRefusesTheCellFirst();
        beginRefusesTheGrowthSecond();
    }

    private static void beginOutOfRange() {
        for (int cell : new int[] {-1, 36, Scenes.LOWEST, Scenes.HIGHEST}) {
            T.range("begin(" + cell + ", 0)", Coilworm::new, x -> x.begin(cell, 0));
        }
    }

    private static void beginOwingOutOfRange() {
        for (int owed : new int[] {-1, 21, Scenes.LOWEST, Scenes.HIGHEST}) {
            T.argument("begin(0, " + owed + ")", Coilworm::new, x -> x.begin(0, owed));
        }
    }

    private static void beginOnAWall() {
        Checks.Maker scene = () -> {
            Coilworm x = new Coilworm();
            x.setWall(4, true);
            return x;
        };
        for (int cell : new int[] {14, 15, 20, 21}) {
            T.state("a wall: begin(" + cell + ", 0)", scene, x -> x.begin(cell, 0));
        }
        Coilworm x = scene.make();
        x.begin(13, 0);
        T.due("beside a wall: begin(13, 0)", x.isAlive(), true);
    }

    private static void beginOnWallsAlone() {
        for (int cell = 0; cell < 36; cell++) {
            int there = cell;
            T.state("walls alone: begin(" + cell + ", 0)", Scenes::wallsAlone, x -> x.begin(there, 0));
        }
    }

    private static void beginWithAWorm() {
        T.state("a worm: begin(0, 0)", Scenes::living, x -> x.begin(0, 0));
        T.state("a worm: begin on its head", Scenes::living, x -> x.begin(15, 0));
        T.state("a dead worm: begin(35, 0)", Scenes::dead, x -> x.begin(35, 0));
        T.state("a worm on all cells: begin(0, 20)", Scenes::filled, x -> x.begin(0, 20));
    }

    private static void beginRefusesTheCellFirst() {
        T.range("begin(36, 21)", Coilworm::new, x -> x.begin(36, 21));
        T.range("a worm: begin(-1, 0)", Scenes::living, x -> x.begin(-1, 0));
        T.range("a dead worm: begin(36, -1)", Scenes::dead, x -> x.begin(36, -1));
    }

    private static void beginRefusesTheGrowthSecond() {
        T.argument("walls alone: begin(0, 21)", Scenes::wallsAlone, x -> x.begin(0, 21));
        T.argument("a worm: begin(0, -1)", Scenes::living, x -> x.begin(0, -1));
        T.argument("a dead worm: begin(35, 21)", Scenes::dead, x -> x.begin(35, 21));
    }

    // ---- promise 11: end

    private static void ends() {
        endOfOneCell();
        endOfAWormOnAllCells();
        endOfADeadWorm();
        endLeavesTheFeeds();
        endWithoutAWorm();
        endTwice();
    }

    private static void endOfOneCell() {
        Coilworm x = Scenes.begun(14, 20);
        T.due("end() of one cell", x.end(), 1);
        T.due("behind it", Looks.at(x), Looks.at(new Coilworm()));
    }

    private static void endOfAWormOnAllCells() {
        Coilworm x = Scenes.filled();
        T.due("end() of a worm on all cells", x.end(), 36);
        T.due("behind it", Looks.at(x), Looks.at(new Coilworm()));
    }

    private static void endOfADeadWorm() {
        Coilworm x = Scenes.dead();
        T.due("end() of a dead worm", x.end(), 2);
        T.due("isAlive() behind it", x.isAlive(), false);
        T.due("behind it", Scenes.worm(x), " +0 feeds 1");
    }

    private static void endLeavesTheFeeds() {
        Coilworm x = Scenes.fullRow();
        x.begin(0, 0);
        x.end();
        T.due("end() leaves 40 feeds", Looks.at(x), Looks.at(Scenes.fullRow()));
    }

    private static void endWithoutAWorm() {
        T.state("end() without a worm", Coilworm::new, x -> x.end());
        T.state("end() with feeds alone", Scenes::fullRow, x -> x.end());
    }

    private static void endTwice() {
        Checks.Maker ended = () -> {
            Coilworm x = Scenes.dead();
            x.end();
            return x;
        };
        T.state("end() again", ended, x -> x.end());
    }

    // ---- promise 12: feed

    private static void feedsAreTold() {
        feedOnTheSmallestAndTheLargestCell();
        feedsUpToForty();
        feedWithAWorm();
        feedOnAWormOnAllCells();
        feedWithADeadWorm();
        feedBesideWalls();
        feedAgainBehindAMealOfForty();
        feedsGoRoundTheirRow();
    }

    private static void feedOnTheSmallestAndTheLargestCell() {
        Coilworm x = new Coilworm();
        T.due("feed(0) to an empty row", x.feed(0), 1);
        T.due("feed(35)", x.feed(35), 2);
        T.due("feed(35) again", x.feed(35), 3);
    }

    private static void feedsUpToForty() {
        Coilworm x = new Coilworm();
        for (int count = 1; count <= 40; count++) {
            T.due("feed() number " + count, x.feed(count % 36), count);
        }
        T.due("feeds() of a full row", x.feeds(), 40);
    }

    private static void feedWithAWorm() {
        Coilworm x = Scenes.begun(14, 1);
        T.due("feed on the head", x.feed(14), 1);
        x.step(R);
        T.due("feed on the tail", x.feed(14), 2);
        T.due("none of them is eaten", Scenes.worm(x), "15 14 +0 feeds 2");
    }

    private static void feedOnAWormOnAllCells() {
        Coilworm x = Scenes.filled();
        T.due("feed(20) on all cells", x.feed(20), 1);
        T.due("the worm is as it was", x.length() + " +" + x.owed(), "36 +0");
    }

    private static void feedWithADeadWorm() {
        T.due("a dead worm: feed(35)", Scenes.dead().feed(35), 2);
    }

    private static void feedBesideWalls() {
        Coilworm x = Scenes.open(8);
        T.due("one block: feed(28)", x.feed(28), 1);
        T.due("one block: feed(35)", x.feed(35), 2);
    }

    private static void feedAgainBehindAMealOfForty() {
        Checks.Maker scene = () -> {
            Coilworm x = Scenes.fullRow();
            x.begin(0, 0);
            x.step(R);
            return x;
        };
        T.due("39 are left", scene.make().feeds(), 39);
        T.due("feed(20) then", scene.make().feed(20), 40);
        T.state("feed(20) one more", () -> {
            Coilworm x = scene.make();
            x.feed(20);
            return x;
        }, x -> x.feed(20));
    }

    /** Far more feeds than 40 are told and eaten by and by, and always the one that was told first. */
    private static void feedsGoRoundTheirRow() {
        int[] cells = {1, 7, 6, 0};
        int[] directions = {R, D, L, U};
        Coilworm x = Scenes.oneBlock();
        x.feed(cells[0]);
        x.feed(cells[1]);
        x.begin(0, 0);
        for (int eaten = 0; eaten < 95; eaten++) {
            x.feed(cells[(eaten + 2) % 4]);
            x.step(directions[eaten % 4]);
            T.due("feeds() behind the meal " + eaten, x.feeds(), 2);
            // Another worm in its place, as one that eats so much would soon fill the block.
            x.end();
            x.begin(cells[eaten % 4], 0);
        }
    }

    private static void feedsRefused() {
        feedOutOfRange();
        feedOnAWall();
        feedOnWallsAlone();
        feedToAFullRow();
        feedRefusesTheCellFirst();
    }

    private static void feedOutOfRange() {
        for (int cell : new int[] {-1, 36, Scenes.LOWEST, Scenes.HIGHEST}) {
            T.range("feed(" + cell + ")", Coilworm::new, x -> x.feed(cell));
        }
    }

    private static void feedOnAWall() {
        Checks.Maker scene = () -> Scenes.open(0, 1, 2, 3, 5, 6, 7, 8);
        for (int cell : new int[] {14, 15, 20, 21}) {
            T.state("a wall: feed(" + cell + ")", scene, x -> x.feed(cell));
        }
    }

    private static void feedOnWallsAlone() {
        for (int cell = 0; cell < 36; cell++) {
            int there = cell;
            T.state("walls alone: feed(" + cell + ")", Scenes::wallsAlone, x -> x.feed(there));
        }
    }

    private static void feedToAFullRow() {
        T.state("40 feeds: feed(0)", Scenes::fullRow, x -> x.feed(0));
        T.state("40 feeds: feed(35)", Scenes::fullRow, x -> x.feed(35));
    }

    private static void feedRefusesTheCellFirst() {
        T.range("40 feeds: feed(36)", Scenes::fullRow, x -> x.feed(36));
        T.range("40 feeds: feed(-1)", Scenes::fullRow, x -> x.feed(-1));
        T.range("walls alone: feed(36)", Scenes::wallsAlone, x -> x.feed(36));
    }

    // ---- promise 15: isAlive

    private static void isAlives() {
        T.due("no worm: isAlive()", new Coilworm().isAlive(), false);
        T.due("a worm: isAlive()", Scenes.living().isAlive(), true);
        T.due("a dead worm: isAlive()", Scenes.dead().isAlive(), false);
        T.due("a worm on all cells: isAlive()", Scenes.filled().isAlive(), true);
        T.due("a worm that has to die, but has not: isAlive()", Scenes.overfilled().isAlive(), true);
        Coilworm x = Scenes.living();
        x.end();
        T.due("a worm taken away: isAlive()", x.isAlive(), false);
    }

    // ---- promise 16: length

    private static void lengths() {
        T.due("no worm: length()", new Coilworm().length(), 0);
        T.due("one cell: length()", Scenes.begun(0, 20).length(), 1);
        T.due("a dead worm: length()", Scenes.dead().length(), 2);
        T.due("a worm on all cells: length()", Scenes.filled().length(), 36);
        Coilworm x = Scenes.overfilled();
        T.due("a worm on all cells dies", x.step(U), 0);
        T.due("a dead worm on all cells: length()", x.length(), 36);
        x.end();
        T.due("a worm taken away: length()", x.length(), 0);
    }

    // ---- promise 17: owed

    private static void oweds() {
        T.due("no worm: owed()", new Coilworm().owed(), 0);
        T.due("the least: owed()", Scenes.begun(0, 0).owed(), 0);
        T.due("the most: owed()", Scenes.begun(0, 20).owed(), 20);
        T.due("a dead worm: owed()", Scenes.dead().owed(), 1);
        T.due("a worm on all cells: owed()", Scenes.overfilled().owed(), 1);
        owedTakesOneLessAndTwoMore();
        owedDoesNotGoBelowNought();
        owedGoesOverTwenty();
        owedIsGoneWithTheWorm();
    }

    private static void owedTakesOneLessAndTwoMore() {
        for (int owed = 0; owed <= 20; owed++) {
            Coilworm x = Scenes.begun(0, owed);
            x.feed(1);
            x.step(R);
            T.due("a meal, owing " + owed, x.owed(), owed == 0 ? 2 : owed + 1);
        }
    }

    private static void owedDoesNotGoBelowNought() {
        Coilworm x = Scenes.begun(0, 1);
        Scenes.round(x, 0, 1);
        T.due("owed 1, a step", x.owed(), 0);
        Scenes.round(x, 1, 1);
        T.due("owed 0, a step", x.owed(), 0);
    }

    private static void owedGoesOverTwenty() {
        Coilworm x = Scenes.fed(1, 2, 3, 4, 5);
        x.begin(0, 20);
        Scenes.round(x, 0, 5);
        T.due("20, and 5 meals", Scenes.worm(x), "5 4 3 2 1 0 +25 feeds 0");
    }

    private static void owedIsGoneWithTheWorm() {
        Coilworm x = Scenes.begun(0, 20);
        x.end();
        T.due("a worm taken away: owed()", x.owed(), 0);
        x.begin(0, 0);
        T.due("the next one: owed()", x.owed(), 0);
    }

    // ---- promise 18: bodyAt

    private static void bodyAts() {
        bodyAtOfAWormOnAllCells();
        bodyAtOfADeadWorm();
        bodyAtOutOfRange();
        bodyAtWithoutAWorm();
    }

    private static void bodyAtOfAWormOnAllCells() {
        Coilworm x = Scenes.filled();
        for (int place = 0; place < 36; place++) {
            T.due("all cells: bodyAt(" + place + ")", x.bodyAt(place), Scenes.CELLS[35 - place]);
        }
    }

    private static void bodyAtOfADeadWorm() {
        Coilworm x = Scenes.dead();
        T.due("a dead worm: bodyAt(0)", x.bodyAt(0), 1);
        T.due("a dead worm: bodyAt(1)", x.bodyAt(1), 0);
    }

    private static void bodyAtOutOfRange() {
        for (int place : new int[] {-1, 1, Scenes.LOWEST, Scenes.HIGHEST}) {
            T.range("one cell: bodyAt(" + place + ")", () -> Scenes.begun(0, 20), x -> x.bodyAt(place));
        }
        for (int place : new int[] {-1, 2, 3}) {
            T.range("two cells: bodyAt(" + place + ")", Scenes::living, x -> x.bodyAt(place));
            T.range("two dead cells: bodyAt(" + place + ")", Scenes::dead, x -> x.bodyAt(place));
        }
        T.range("all cells: bodyAt(-1)", Scenes::filled, x -> x.bodyAt(-1));
        T.range("all cells: bodyAt(36)", Scenes::filled, x -> x.bodyAt(36));
    }

    private static void bodyAtWithoutAWorm() {
        T.range("no worm: bodyAt(0)", Coilworm::new, x -> x.bodyAt(0));
        T.range("no worm: bodyAt(-1)", Coilworm::new, x -> x.bodyAt(-1));
        Checks.Maker ended = () -> {
            Coilworm x = Scenes.filled();
            x.end();
            return x;
        };
        T.range("a worm taken away: bodyAt(0)", ended, x -> x.bodyAt(0));
    }

    // ---- promise 19: feeds

    private static void feedCounts() {
        T.due("an empty row: feeds()", new Coilworm().feeds(), 0);
        T.due("one: feeds()", Scenes.fed(35).feeds(), 1);
        T.due("a full row: feeds()", Scenes.fullRow().feeds(), 40);
        feedsCountDownToNone();
        feedsStayWhenTheWormDies();
        feedsStayWithoutAWorm();
    }

    private static void feedsCountDownToNone() {
        Coilworm x = Scenes.fed(1, 2);
        x.begin(0, 0);
        Scenes.round(x, 0, 1);
        T.due("one eaten of two: feeds()", x.feeds(), 1);
        Scenes.round(x, 1, 1);
        T.due("both eaten: feeds()", x.feeds(), 0);
        Scenes.round(x, 2, 1);
        T.due("no more to eat: feeds()", x.feeds(), 0);
    }

    private static void feedsStayWhenTheWormDies() {
        Coilworm x = Scenes.fed(0, 35);
        x.begin(0, 3);
        T.due("three steps", Scenes.steps(x, R, D, L), "2 3 4");
        x.end();
        x.begin(0, 4);
        T.due("three steps and a death on the first feed", Scenes.steps(x, R, D, L, U), "2 3 4 0");
        T.due("a dead worm: feeds()", x.feeds(), 2);
    }

    private static void feedsStayWithoutAWorm() {
        Coilworm x = Scenes.fullRow();
        x.begin(1, 0);
        x.end();
        T.due("a worm taken away: feeds()", x.feeds(), 40);
    }
}
