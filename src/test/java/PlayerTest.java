/** Promises 14, 20 and 21: play, isInOrder, isSafe. */
public final class PlayerTest {
    private static final Checks T = new Checks("PlayerTest");
    private static final int U = 0;
    private static final int R = 1;
    private static final int D = 2;
    private static final int L = 3;

    public static void main(String[] args) {
        order();
        safeAtAll();
        safeWithoutCycle();
        notFartherThanTheFeed();
        orderAhead();
        roomForTheGrowth();
        playsTheFarthest();
        playsUntilNoneIsSafe();
        playsSoMany();
        T.close();
    }

    private static void steps(Coilworm x, int... directions) {
        for (int direction : directions) {
            T.due("a step lives", x.step(direction) > 0, true);
        }
    }

    private static void order() {
        Coilworm x = new Coilworm();
        T.due("isInOrder() without a worm", x.isInOrder(), false);
        x.begin(1, 5);
        T.due("isInOrder() of one cell", x.isInOrder(), true);
        steps(x, L);
        T.due("isInOrder(), 35 of 36", x.isInOrder(), true);
        steps(x, D);
        T.due("isInOrder(), 70 of 36", x.isInOrder(), false);
        x.end();
        x.begin(0, 5);
        steps(x, R, R, R, R, R);
        T.due("isInOrder() along the cycle", x.isInOrder(), true);
        x.step(U);
        T.due("isInOrder() of a dead one", x.isInOrder(), true);
        x.end();
        x.begin(0, 3);
        steps(x, R, D, L);
        T.due("isInOrder() round a block: 1 + 9 + 25", x.isInOrder(), true);
        steps(x, U);
        T.due("isInOrder() round and on: 9 + 25 + 1", x.isInOrder(), true);
        Coilworm y = Scenes.oneBlock();
        y.begin(0, 4);
        steps(y, R, D, L);
        T.due("isInOrder(), 3 of 4", y.isInOrder(), true);
        Coilworm z = Scenes.oneBlock();
        z.begin(0, 2);
        steps(z, R, D);
        T.due("isInOrder(), 2 of 4", z.isInOrder(), true);
        z.end();
        z.begin(0, 2);
        steps(z, D);
        T.due("isInOrder(), 3 of 4", z.isInOrder(), true);
        steps(z, R);
        T.due("isInOrder(), 6 of 4", z.isInOrder(), false);
        Coilworm none = new Coilworm();
        none.setLink(0, Coilworm.NONE);
        none.setLink(6, Coilworm.NONE);
        none.begin(2, 0);
        T.due("isInOrder() without a cycle", none.isInOrder(), false);
    }

    private static void safeAtAll() {
        Coilworm x = new Coilworm();
        x.begin(14, 3);
        T.due("safe without a feed", Scenes.safe(x), "");
        x.feed(13);
        // From 14 at the place 12: 8 is 33 away, with 2 left for 2; 13 is 35 away, with 0 left for 4.
        T.due("safe towards 13, 35 away", Scenes.safe(x), "012");
        T.due("body behind asking", x.bodyAt(0), 14);
        T.due("length behind asking", x.length(), 1);
        T.due("owed behind asking", x.owed(), 3);
        T.due("feeds behind asking", x.feeds(), 1);
        Coilworm y = new Coilworm();
        y.begin(0, 0);
        y.feed(6);
        T.due("safe at a corner", Scenes.safe(y), "12");
        Coilworm z = new Coilworm();
        z.setWall(1, true);
        z.setLink(6, Coilworm.NONE);
        z.begin(7, 0);
        z.feed(6);
        T.due("no cycle, none safe", Scenes.safe(z), "");
        Coilworm w = new Coilworm();
        w.setWall(4, true);
        w.begin(8, 0);
        w.feed(9);
        // The places: 8 is 13, 9 is 12, 2 is 2, 7 is 14, and 14 is a wall.
        T.due("safe beside a wall", Scenes.safe(w), "013");
    }

    private static void safeWithoutCycle() {
        Coilworm x = new Coilworm();
        x.setLink(0, Coilworm.NONE);
        x.setLink(6, Coilworm.NONE);
        x.begin(14, 0);
        x.feed(15);
        T.due("safe without a cycle", Scenes.safe(x), "");
        T.due("play(5) without a cycle", x.play(5), 0);
    }

    private static void notFartherThanTheFeed() {
        Coilworm x = new Coilworm();
        x.begin(0, 0);
        x.feed(1);
        T.due("safe, the feed 1 away", Scenes.safe(x), "1");
        x.step(R);
        T.due("feeds()", x.feeds(), 0);
        x.feed(8);
        // From 1 at the place 1: 2 is 1 away, 7 is 9, 8 is 8, 0 is 35.
        T.due("safe, the feed 8 away", Scenes.safe(x), "1");
        x.feed(7);
        T.due("safe, the second feed does not count", Scenes.safe(x), "1");
        Coilworm y = new Coilworm();
        y.begin(1, 0);
        y.feed(7);
        T.due("safe, just as far as the feed", Scenes.safe(y), "12");
        Coilworm z = new Coilworm();
        z.begin(0, 0);
        z.feed(0);
        T.due("safe, the feed on the head", Scenes.safe(z), "12");
    }

    private static void orderAhead() {
        Coilworm x = new Coilworm();
        x.begin(14, 2);
        steps(x, U, U);
        T.due("isInOrder(), 33 + 29", x.isInOrder(), false);
        x.feed(4);
        T.due("none safe out of order", Scenes.safe(x), "");
        steps(x, R);
        T.due("isInOrder(), 29 + 1", x.isInOrder(), true);
        T.due("safe in order again", Scenes.safe(x), "1");
        Coilworm y = new Coilworm();
        y.begin(8, 3);
        steps(y, U);
        y.feed(2);
        // To 1 it would be 29 + 35 steps round.
        T.due("order behind it", Scenes.safe(y), "1");
    }

    private static void roomForTheGrowth() {
        int[][] dues = {{0, 1, 1}, {1, 1, 1}, {2, 1, 0}, {3, 6, 1}, {4, 6, 0}, {20, 6, 0}};
        for (int[] due : dues) {
            Coilworm x = Scenes.oneBlock();
            x.begin(0, due[0]);
            x.feed(due[1]);
            T.due("isSafe(1), owing " + due[0] + ", the feed at " + due[1], x.isSafe(R), due[2] == 1);
        }
        Coilworm y = Scenes.oneBlock();
        y.begin(0, 0);
        y.feed(6);
        T.due("isSafe(2), 3 left for 2", y.isSafe(D), true);
        Coilworm z = Scenes.oneBlock();
        z.begin(0, 1);
        z.feed(6);
        T.due("isSafe(2), 0 left for 2", z.isSafe(D), false);
        Coilworm w = Scenes.oneBlock();
        w.begin(0, 1);
        w.feed(0);
        T.due("isSafe(2), 0 left for 0", w.isSafe(D), true);
    }

    private static void playsTheFarthest() {
        Coilworm x = new Coilworm();
        x.begin(0, 0);
        x.feed(6);
        T.due("play(50) to 6 at once", x.play(50), 1);
        T.due("head", x.bodyAt(0), 6);
        Coilworm y = new Coilworm();
        y.begin(14, 0);
        y.feed(13);
        // From 14 at the place 12 to the farthest one not beyond 13: 13 itself, 35 away.
        T.due("play(1)", y.play(1), 1);
        T.due("head", y.bodyAt(0), 13);
        Coilworm w = new Coilworm();
        w.begin(14, 0);
        w.feed(7);
        // The feed is 34 away; 8, above, is 33 away, and 15 and 20, which are safe too, are 1 and 7 away.
        T.due("safe", Scenes.safe(w), "012");
        T.due("play(1)", w.play(1), 1);
        T.due("head", w.bodyAt(0), 8);
        Coilworm z = new Coilworm();
        z.begin(14, 0);
        z.feed(19);
        // 15 is 1 away, 20 is 7, 19 is 8, 13 and 8 are beyond: by 20 to 19.
        T.due("play(1)", z.play(1), 1);
        T.due("head", z.bodyAt(0), 20);
        T.due("play(9)", z.play(9), 1);
        T.due("head", z.bodyAt(0), 19);
    }

    private static void playsUntilNoneIsSafe() {
        Coilworm x = Scenes.oneBlock();
        x.begin(0, 0);
        T.due("play(50) without a feed", x.play(50), 0);
        x.feed(1);
        x.feed(7);
        x.feed(6);
        T.due("play(50), then 2 left for 3", x.play(50), 1);
        T.due("head", x.bodyAt(0), 1);
        T.due("feeds()", x.feeds(), 2);
        T.due("owed()", x.owed(), 2);
        T.due("isAlive()", x.isAlive(), true);
        T.due("play(50) again", x.play(50), 0);
        Coilworm y = new Coilworm();
        y.begin(0, 0);
        y.feed(5);
        y.feed(4);
        T.due("play(50) over two feeds", y.play(50) > 5, true);
        T.due("feeds()", y.feeds(), 0);
        T.due("head", y.bodyAt(0), 4);
    }

    private static void playsSoMany() {
        Coilworm x = new Coilworm();
        x.begin(0, 0);
        x.feed(5);
        T.due("play(1)", x.play(1), 1);
        T.due("head", x.bodyAt(0), 1);
        T.due("play(3)", x.play(3), 3);
        T.due("head", x.bodyAt(0), 4);
        T.due("play(3)", x.play(3), 1);
        T.due("head", x.bodyAt(0), 5);
        Coilworm y = new Coilworm();
        for (int link = 0; link < 6; link++) {
            y.setLink(link, Coilworm.NONE);
        }
        y.setLink(0, 0);
        y.setLink(1, 0);
        y.begin(0, 0);
        for (int count = 0; count < 13; count++) {
            y.feed(count % 2 == 0 ? 35 : 30);
        }
        int made = y.play(50);
        T.due("play(50) of a long row", made, 50);
        T.due("play(50) leaves feeds", y.feeds() > 0, true);
    }
}
