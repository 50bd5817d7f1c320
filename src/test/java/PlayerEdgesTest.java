/** Promises 14, 20 and 21 at their edges, one method for each that the document names. */
public final class PlayerEdgesTest {
    private static final Checks T = new Checks("PlayerEdgesTest");
    private static final int U = Scenes.U;
    private static final int R = Scenes.R;
    private static final int D = Scenes.D;
    private static final int L = Scenes.L;

    public static void main(String[] args) {
        plays();
        playsRefused();
        isInOrders();
        isSafes();
        isSafesRefused();
        T.close();
    }

    // ---- promise 14: play

    private static void plays() {
        playsTheLeast();
        playsTheMost();
        playsJustSoMany();
        playsWithoutAFeed();
        playsWithoutACycle();
        playsWithNoneSafe();
        playsUntilTheRowIsEmpty();
        playsOverTheLastPlaceToTheFirst();
        playsToTheFarthest();
        playsUntilTheBoardIsFull();
        playsOnAFullBoard();
    }

    private static void playsTheLeast() {
        Coilworm x = Scenes.begun(0, 0, 5);
        T.due("play(1)", x.play(1), 1);
        T.due("behind play(1)", Scenes.worm(x), "1 +0 feeds 1");
    }

    /** The feeds lie so that no cut goes to one of them or nearer, so that each step is one along the cycle. */
    private static Coilworm feedsAlongTheCycle() {
        Coilworm x = new Coilworm();
        for (int place : new int[] {5, 10, 15, 20, 25, 30, 35, 41, 46, 51}) {
            x.feed(Scenes.CELLS[place % 36]);
        }
        x.begin(0, 0);
        return x;
    }

    private static void playsTheMost() {
        Coilworm x = feedsAlongTheCycle();
        T.due("play(50)", x.play(50), 50);
        T.due("the head is on the place 50 - 36", x.bodyAt(0), Scenes.CELLS[14]);
        T.due("9 of 10 are eaten", x.length() + " +" + x.owed() + " feeds " + x.feeds(), "19 +0 feeds 1");
        T.due("play(50) again, up to the last feed", x.play(50), 1);
        T.due("10 of 10 are eaten", x.length() + " +" + x.owed() + " feeds " + x.feeds(), "19 +2 feeds 0");
    }

    private static void playsJustSoMany() {
        for (int most : new int[] {2, 3, 49}) {
            Coilworm x = feedsAlongTheCycle();
            T.due("play(" + most + ")", x.play(most), most);
            T.due("the head is on the place " + most, x.bodyAt(0), Scenes.CELLS[most % 36]);
        }
    }

    private static void playsWithoutAFeed() {
        Coilworm x = Scenes.begun(0, 0);
        T.due("no feed: play(50)", x.play(50), 0);
        T.due("no feed, behind play(50)", Scenes.worm(x), "0 +0 feeds 0");
    }

    private static void playsWithoutACycle() {
        Coilworm x = Scenes.torn();
        x.feed(15);
        x.begin(14, 0);
        T.due("torn: play(50)", x.play(50), 0);
        T.due("torn, behind play(50)", Scenes.worm(x), "14 +0 feeds 1");
    }

    private static void playsWithNoneSafe() {
        Coilworm x = Scenes.inOneBlock(4, 0);
        T.due("none safe: play(50)", x.play(50), 0);
        T.due("none safe: isAlive()", x.isAlive(), true);
        T.due("none safe, behind play(50)", Scenes.worm(x), "0 +4 feeds 1");
    }

    private static void playsUntilTheRowIsEmpty() {
        Coilworm x = Scenes.begun(0, 0, 1, 2);
        T.due("two feeds: play(3)", x.play(3), 2);
        T.due("both are eaten", Scenes.worm(x), "2 1 +3 feeds 0");
    }

    private static void playsOverTheLastPlaceToTheFirst() {
        // From the place 33 by 34, 35, 0, 1 and 2 to 3: all that lies beside the way is farther than the feed.
        Coilworm x = Scenes.begun(18, 0, 3);
        T.due("from the place 33 to 3: play(50)", x.play(50), 6);
        T.due("behind that", Scenes.worm(x), "3 +2 feeds 0");
    }

    private static void playsToTheFarthest() {
        // 13 is 35 away from 14, 8 is 33, 20 is 7 and 15 is 1.
        Coilworm x = Scenes.begun(14, 0, 13);
        T.due("the feed 35 away: play(1)", x.play(1), 1);
        T.due("to 13", x.bodyAt(0), 13);
        Coilworm y = Scenes.begun(14, 0, 7);
        T.due("the feed 34 away: play(1)", y.play(1), 1);
        T.due("to 8", y.bodyAt(0), 8);
        Coilworm z = Scenes.begun(14, 0, 19);
        T.due("the feed 8 away: play(1)", z.play(1), 1);
        T.due("to 20", z.bodyAt(0), 20);
        Coilworm w = Scenes.begun(14, 0, 21);
        T.due("the feed 6 away: play(1)", w.play(1), 1);
        T.due("to 15", w.bodyAt(0), 15);
    }

    private static void playsUntilTheBoardIsFull() {
        Coilworm x = Scenes.inOneBlock(3, 0);
        T.due("to fill the block: play(50)", x.play(50), 3);
        T.due("the block is full", Scenes.worm(x), "6 7 1 0 +0 feeds 1");
        T.due("no room for a meal: play(50)", x.play(50), 0);
    }

    private static void playsOnAFullBoard() {
        // The feed is on the head, 36 away; to eat it would be to owe 2.
        Coilworm x = Scenes.filledWith(6);
        T.due("all cells: play(50)", x.play(50), 35);
        T.due("all cells: the head behind it", x.bodyAt(0), 12);
        T.due("all cells: play(50) again", x.play(50), 0);
        T.due("all cells: still the feed", x.length() + " feeds " + x.feeds(), "36 feeds 1");
        Coilworm y = Scenes.filledWith(2);
        T.due("all cells, the feed 3 away: play(50)", y.play(50), 2);
        T.due("over the last place to the first", y.bodyAt(0) + " " + y.bodyAt(1) + " " + y.bodyAt(2), "1 0 6");
    }

    private static void playsRefused() {
        playOutOfRange();
        playWithoutAWorm();
        playWithADeadWorm();
        playRefusesTheNumberFirst();
    }

    private static void playOutOfRange() {
        for (int most : new int[] {0, -1, 51, Scenes.LOWEST, Scenes.HIGHEST}) {
            T.argument("play(" + most + ")", Scenes::living, x -> x.play(most));
        }
    }

    private static void playWithoutAWorm() {
        T.state("no worm: play(1)", Coilworm::new, x -> x.play(1));
        T.state("no worm: play(50)", Scenes::fullRow, x -> x.play(50));
    }

    private static void playWithADeadWorm() {
        T.state("a dead worm: play(1)", Scenes::dead, x -> x.play(1));
        T.state("a dead worm: play(50)", Scenes::dead, x -> x.play(50));
    }

    private static void playRefusesTheNumberFirst() {
        for (int most : new int[] {0, 51}) {
            T.argument("no worm: play(" + most + ")", Coilworm::new, x -> x.play(most));
            T.argument("a dead worm: play(" + most + ")", Scenes::dead, x -> x.play(most));
        }
    }

    // ---- promise 20: isInOrder

    private static void isInOrders() {
        orderWithoutAWorm();
        orderOfOneCell();
        orderWithoutACycle();
        orderOneStepShortOfTheCycle();
        orderOneStepBeyondTheCycle();
        orderFarBeyondTheCycle();
        orderOverTheLastPlaceToTheFirst();
        orderOnAFullBoard();
        orderOfADeadWorm();
    }

    private static void orderWithoutAWorm() {
        T.due("no worm: isInOrder()", new Coilworm().isInOrder(), false);
        Coilworm x = Scenes.filled();
        x.end();
        T.due("a worm taken away: isInOrder()", x.isInOrder(), false);
    }

    private static void orderOfOneCell() {
        for (int cell : new int[] {0, 6, 35}) {
            T.due("one cell on " + cell + ": isInOrder()", Scenes.begun(cell, 20).isInOrder(), true);
        }
        T.due("one cell in one block: isInOrder()", Scenes.inOneBlock(20).isInOrder(), true);
    }

    private static void orderWithoutACycle() {
        Coilworm x = Scenes.torn();
        x.begin(0, 2);
        T.due("torn, one cell: isInOrder()", x.isInOrder(), false);
        Scenes.steps(x, R, D);
        T.due("torn, three cells: isInOrder()", x.isInOrder(), false);
    }

    private static void orderOneStepShortOfTheCycle() {
        Coilworm x = Scenes.begun(1, 1);
        x.step(L);
        T.due("35 of 36: isInOrder()", x.isInOrder(), true);
        Coilworm y = Scenes.inOneBlock(1);
        y.step(D);
        T.due("3 of 4: isInOrder()", y.isInOrder(), true);
    }

    /** A worm from the place 2 of its board's cycle, that cuts on to the places 5, 12, 13, 30, 31 and 32. */
    private static Coilworm cutting() {
        int[] weights = {9, 3, 7, 3, 2, 4, 2, 2, 6, 9, 6, 2};
        Coilworm x = new Coilworm();
        for (int link = 0; link < 12; link++) {
            x.setLink(link, weights[link]);
        }
        x.begin(7, 7);
        Scenes.steps(x, R, R, D, D, L, L);
        return x;
    }

    private static void orderOneStepBeyondTheCycle() {
        Coilworm x = cutting();
        T.due("30 of 36: isInOrder()", x.isInOrder(), true);
        x.step(U);
        T.due("the head one place ahead of the tail", x.placeOf(x.bodyAt(0)) - x.placeOf(x.bodyAt(7)), 1);
        T.due("37 of 36: isInOrder()", x.isInOrder(), false);
    }

    private static void orderFarBeyondTheCycle() {
        // Two steps back along the cycle: 35 and 35 of 36.
        Coilworm x = Scenes.begun(2, 2);
        Scenes.steps(x, L, L);
        T.due("70 of 36: isInOrder()", x.isInOrder(), false);
        // From 0 to 6 it is 35, from 6 to 7 it is 11, and from 7 to 1 it is 27.
        Coilworm y = Scenes.begun(0, 3);
        Scenes.steps(y, D, R, U);
        T.due("73 of 36: isInOrder()", y.isInOrder(), false);
    }

    private static void orderOverTheLastPlaceToTheFirst() {
        Coilworm x = Scenes.begun(12, 20);
        Scenes.steps(x, U, U, R);
        T.due("from the place 34 to 1: isInOrder()", x.isInOrder(), true);
        Coilworm y = Scenes.oneBlock();
        y.begin(6, 3);
        Scenes.steps(y, U, R, D);
        T.due("one block, from the place 3 to 2: isInOrder()", y.isInOrder(), true);
        Coilworm z = Scenes.oneBlock();
        z.begin(1, 3);
        Scenes.steps(z, L, D);
        T.due("one block, backwards over the first place to the last: isInOrder()", z.isInOrder(), false);
    }

    private static void orderOnAFullBoard() {
        Coilworm x = Scenes.filled();
        T.due("all cells: isInOrder()", x.isInOrder(), true);
        for (int place = 35; place < 75; place++) {
            x.step(Scenes.ROUND[place % 36]);
            T.due("all cells, the tail on the place " + (place + 2) % 36, x.isInOrder(), true);
        }
        Coilworm y = Scenes.inOneBlock(3);
        Scenes.steps(y, D, R, U);
        T.due("one block, full, the other way round: isInOrder()", y.isInOrder(), false);
    }

    private static void orderOfADeadWorm() {
        T.due("a dead worm in order: isInOrder()", Scenes.dead().isInOrder(), true);
        Coilworm x = Scenes.begun(1, 2);
        T.due("it dies", Scenes.steps(x, L, D, L), "2 3 0");
        T.due("a dead worm out of order: isInOrder()", x.isInOrder(), false);
    }

    // ---- promise 21: isSafe

    private static void isSafes() {
        safeInEachDirection();
        safeWithoutAFeed();
        safeWithoutACycle();
        safeWhereItDies();
        safeOutOfOrderAhead();
        safeOutOfOrderBehind();
        safeAsFarAsTheFeed();
        safeWithTheFeedOnTheHead();
        safeOverTheLastPlaceToTheFirst();
        safeWithJustRoomEnough();
        safeWithRoomForAMeal();
        safeOnAFullBoard();
        safeChangesNothing();
    }

    private static void dueSafe(String name, Coilworm x, String directions) {
        T.due(name + ": safe", Scenes.safe(x), directions);
    }

    private static void safeInEachDirection() {
        // On the head, the feed is farther than all.
        dueSafe("in the middle", Scenes.begun(14, 0, 14), "0123");
        dueSafe("in the upper left corner", Scenes.begun(0, 0, 0), "12");
        dueSafe("in the lower right corner", Scenes.begun(35, 0, 35), "03");
    }

    private static void safeWithoutAFeed() {
        dueSafe("no feed", Scenes.begun(14, 0), "");
        Coilworm x = Scenes.begun(0, 0, 1);
        x.step(R);
        dueSafe("the only feed is eaten", x, "");
    }

    private static void safeWithoutACycle() {
        Coilworm x = Scenes.torn();
        x.feed(14);
        x.begin(14, 0);
        dueSafe("torn", x, "");
    }

    private static void safeWhereItDies() {
        Coilworm x = new Coilworm();
        x.setWall(4, true);
        x.setLink(0, Coilworm.NONE);
        x.feed(8);
        x.begin(8, 0);
        // Up it is open, at the right too; below is a wall, and at the left a shut link.
        dueSafe("beside a wall and a shut link", x, "01");
        Coilworm y = Scenes.begun(0, 20, 1);
        y.step(R);
        T.due("onto the neck: isSafe(3)", y.isSafe(L), false);
        T.due("over the rim: isSafe(0)", y.isSafe(U), false);
    }

    private static void safeOutOfOrderAhead() {
        Coilworm x = Scenes.begun(14, 2, 4);
        Scenes.steps(x, U, U);
        T.due("33 and 29 of 36: isInOrder()", x.isInOrder(), false);
        dueSafe("out of order", x, "");
        // A step on, the tail is left and it is in order again; but that is behind the step, not ahead of it.
        Coilworm y = Scenes.begun(14, 2, 4);
        Scenes.steps(y, U, U, R);
        T.due("behind it: isInOrder()", y.isInOrder(), true);
    }

    private static void safeOutOfOrderBehind() {
        // From 8 to 2 it is 29; on to 1, 35 more.
        Coilworm x = Scenes.begun(8, 3);
        x.step(U);
        x.feed(2);
        T.due("29 and 35 of 36: isSafe(3)", x.isSafe(L), false);
        T.due("29 and 1 of 36: isSafe(1)", x.isSafe(R), true);
        Coilworm y = cutting();
        y.feed(19);
        T.due("30 and 7 of 36: isSafe(0)", y.isSafe(U), false);
        T.due("30 and 1 of 36: isSafe(3)", y.isSafe(L), true);
    }

    private static void safeAsFarAsTheFeed() {
        // From 1: 7 is 9 away, at the place 10; 8 is 8 away and 13 is 10.
        T.due("just as far: isSafe(2)", Scenes.begun(1, 0, 7).isSafe(D), true);
        T.due("1 farther: isSafe(2)", Scenes.begun(1, 0, 8).isSafe(D), false);
        T.due("1 less far: isSafe(2)", Scenes.begun(1, 0, 13).isSafe(D), true);
        T.due("just as far, 1 step: isSafe(1)", Scenes.begun(1, 0, 2).isSafe(R), true);
        T.due("the second feed does not count: isSafe(2)", Scenes.begun(1, 0, 8, 13).isSafe(D), false);
    }

    private static void safeWithTheFeedOnTheHead() {
        T.due("the feed on the head, 35 of 36: isSafe(3)", Scenes.begun(1, 0, 1).isSafe(L), true);
        T.due("the feed 35 away: isSafe(3)", Scenes.begun(1, 0, 0).isSafe(L), true);
        T.due("the feed 34 away: isSafe(3)", Scenes.begun(1, 0, 6).isSafe(L), false);
    }

    private static void safeOverTheLastPlaceToTheFirst() {
        // From 12 at the place 34, 6 is 1 away, 13 at the place 11 is 13, and 18 is 35; 0 is 2 and 14 is 14.
        dueSafe("from the place 34, the feed 1 away", Scenes.begun(12, 0, 6), "0");
        dueSafe("from the place 34, the feed 2 away", Scenes.begun(12, 0, 0), "0");
        dueSafe("from the place 34, the feed 12 away", Scenes.begun(12, 0, 7), "0");
        dueSafe("from the place 34, the feed 13 away", Scenes.begun(12, 0, 13), "01");
        dueSafe("from the place 34, the feed 35 away", Scenes.begun(12, 0, 18), "012");
        // From 6, the last place, to 0, the first.
        dueSafe("from the last place to the first", Scenes.begun(6, 0, 0), "0");
        dueSafe("from the last place, the feed on the first but one", Scenes.begun(6, 0, 1), "0");
    }

    private static void safeWithJustRoomEnough() {
        // To 1 it is 1 step of 4, and to 6 it is 3; a growth of 1 is paid by the step itself.
        T.due("2 left for 2: isSafe(1)", Scenes.inOneBlock(3, 0).isSafe(R), true);
        T.due("2 left for 3: isSafe(1)", Scenes.inOneBlock(4, 0).isSafe(R), false);
        T.due("0 left for 0: isSafe(2)", Scenes.inOneBlock(1, 0).isSafe(D), true);
        T.due("0 left for 1: isSafe(2)", Scenes.inOneBlock(2, 0).isSafe(D), false);
        // One cell alone: tail and head are one, and 3 are left.
        T.due("3 left for 0: isSafe(2)", Scenes.inOneBlock(0, 0).isSafe(D), true);
        // The place of the head does not count, nor that of the tail: 34 are left for 19 and 16 for 19.
        T.due("34 left for 19: isSafe(1)", Scenes.begun(0, 20, 0).isSafe(R), true);
        T.due("16 left: isSafe(2)", Scenes.begun(9, 17, 9).isSafe(D), true);
    }

    private static void safeWithRoomForAMeal() {
        T.due("2 left for 2 and no growth: isSafe(1)", Scenes.inOneBlock(1, 1).isSafe(R), true);
        T.due("2 left for 1 and 2: isSafe(1)", Scenes.inOneBlock(2, 1).isSafe(R), false);
        T.due("3 left for 2: isSafe(2)", Scenes.inOneBlock(0, 6).isSafe(D), true);
        T.due("0 left for 2: isSafe(2)", Scenes.inOneBlock(1, 6).isSafe(D), false);
    }

    private static void safeOnAFullBoard() {
        dueSafe("all cells, the feed on the head", Scenes.filledWith(6), "0");
        dueSafe("all cells, the feed 2 away", Scenes.filledWith(1), "0");
        dueSafe("all cells, the feed on the tail", Scenes.filledWith(0), "");
        dueSafe("all cells, no feed", Scenes.filledWith(), "");
        Coilworm x = Scenes.overfilled();
        x.feed(6);
        dueSafe("all cells, and it grows", x, "");
    }

    private static void safeChangesNothing() {
        Coilworm x = Scenes.inOneBlock(1, 6, 0);
        Scenes.safe(x);
        T.due("behind isSafe()", Looks.at(x), Looks.at(Scenes.inOneBlock(1, 6, 0)));
        Coilworm y = Scenes.filledWith(0);
        Scenes.safe(y);
        y.isInOrder();
        T.due("all cells, behind isSafe()", Looks.at(y), Looks.at(Scenes.filledWith(0)));
    }

    private static void isSafesRefused() {
        for (int direction : new int[] {-1, 4, Scenes.LOWEST, Scenes.HIGHEST}) {
            T.range("isSafe(" + direction + ")", Scenes::living, x -> x.isSafe(direction));
            T.range("no worm: isSafe(" + direction + ")", Coilworm::new, x -> x.isSafe(direction));
            T.range("a dead worm: isSafe(" + direction + ")", Scenes::dead, x -> x.isSafe(direction));
        }
        for (int direction = 0; direction < 4; direction++) {
            int there = direction;
            T.state("no worm: isSafe(" + direction + ")", Scenes::fullRow, x -> x.isSafe(there));
            T.state("a dead worm: isSafe(" + direction + ")", Scenes::dead, x -> x.isSafe(there));
        }
    }
}
