/** Boards and worms that several tests begin with, and what is asked of them again and again. */
final class Scenes {
    static final int U = 0;
    static final int R = 1;
    static final int D = 2;
    static final int L = 3;

    // Of a board as it is made: the cells of its cycle, and the directions from each of them to the next.
    static final int[] CELLS = {0, 1, 2, 3, 4, 5, 11, 10, 9, 8, 7, 13, 14, 15, 16, 17, 23, 22, 21, 20, 19,
        25, 26, 27, 28, 29, 35, 34, 33, 32, 31, 30, 24, 18, 12, 6};
    static final int[] ROUND = {R, R, R, R, R, D, L, L, L, L, D, R, R, R, R, D, L, L, L, L, D, R, R, R, R,
        D, L, L, L, L, L, U, U, U, U, U};

    // Far outside of every range.
    static final int LOWEST = Integer.MIN_VALUE;
    static final int HIGHEST = Integer.MAX_VALUE;

    private Scenes() {
    }

    // ---- boards

    /** Just these blocks are no walls. */
    static Coilworm open(int... blocks) {
        Coilworm x = wallsAlone();
        for (int block : blocks) {
            x.setWall(block, false);
        }
        return x;
    }

    static Coilworm oneBlock() {
        return open(0);
    }

    static Coilworm wallsAlone() {
        Coilworm x = new Coilworm();
        for (int block = 0; block < 9; block++) {
            x.setWall(block, true);
        }
        return x;
    }

    /** No link leads out of the block 0, so that there is no cycle. */
    static Coilworm torn() {
        Coilworm x = new Coilworm();
        x.setLink(0, Coilworm.NONE);
        x.setLink(6, Coilworm.NONE);
        return x;
    }

    /** Some feeds on 1, and one more. */
    static Coilworm fedBehind(int others, int last) {
        Coilworm x = new Coilworm();
        for (int count = 0; count < others; count++) {
            x.feed(1);
        }
        return told(x, last);
    }

    static Coilworm fullRow() {
        return fedBehind(39, 35);
    }

    static Coilworm fed(int... cells) {
        return told(new Coilworm(), cells);
    }

    private static Coilworm told(Coilworm x, int... feeds) {
        for (int feed : feeds) {
            x.feed(feed);
        }
        return x;
    }

    // ---- worms

    static Coilworm begun(int cell, int owed, int... feeds) {
        Coilworm x = new Coilworm();
        x.begin(cell, owed);
        return told(x, feeds);
    }

    /** A worm on 0, in a block between walls. */
    static Coilworm inOneBlock(int owed, int... feeds) {
        Coilworm x = oneBlock();
        x.begin(0, owed);
        return told(x, feeds);
    }

    static Coilworm living() {
        Coilworm x = new Coilworm();
        x.setLink(4, 3);
        x.feed(17);
        x.begin(14, 2);
        x.step(R);
        return x;
    }

    static Coilworm dead() {
        Coilworm x = new Coilworm();
        x.setLink(4, 3);
        x.feed(17);
        x.begin(0, 2);
        x.step(R);
        x.step(U);
        return x;
    }

    /** A worm on all 36 cells, its tail on the cycle's first place and its head on the last; it owes nothing. */
    static Coilworm filled() {
        return filled(19);
    }

    /** The same, but it owes a growth of 1 for which there is no cell. */
    static Coilworm overfilled() {
        return filled(20);
    }

    static Coilworm filledWith(int... feeds) {
        return told(filled(), feeds);
    }

    private static Coilworm filled(int owed) {
        Coilworm x = new Coilworm();
        for (int place = 1; place <= 8; place++) {
            x.feed(CELLS[place]);
        }
        x.begin(0, owed);
        round(x, 0, 35);
        return x;
    }

    /** Steps along the cycle of a board as it is made, from a place of it on. */
    static void round(Coilworm x, int from, int count) {
        for (int made = 0; made < count; made++) {
            x.step(ROUND[(from + made) % ROUND.length]);
        }
    }

    /** What the steps answer, one by one, in a row. */
    static String steps(Coilworm x, int... directions) {
        StringBuilder answers = new StringBuilder();
        for (int direction : directions) {
            answers.append(answers.length() == 0 ? "" : " ").append(x.step(direction));
        }
        return answers.toString();
    }

    // ---- questions

    static String body(Coilworm x) {
        StringBuilder cells = new StringBuilder();
        int length = x.length();
        for (int place = 0; place < length; place++) {
            cells.append(place == 0 ? "" : " ").append(x.bodyAt(place));
        }
        return cells.toString();
    }

    /** The body, what it owes, and how many feeds there are. */
    static String worm(Coilworm x) {
        return body(x) + " +" + x.owed() + " feeds " + x.feeds();
    }

    static String wallCells(Coilworm x) {
        StringBuilder cells = new StringBuilder();
        for (int cell = 0; cell < 36; cell++) {
            if (x.isWall(cell)) {
                cells.append(cells.length() == 0 ? "" : " ").append(cell);
            }
        }
        return cells.toString();
    }

    static String tree(Coilworm x) {
        StringBuilder links = new StringBuilder();
        for (int link = 0; link < 12; link++) {
            if (x.isInTree(link)) {
                links.append(links.length() == 0 ? "" : " ").append(link);
            }
        }
        return links.toString();
    }

    /** The safe directions, as a text of their numbers. */
    static String safe(Coilworm x) {
        StringBuilder directions = new StringBuilder();
        for (int direction = 0; direction < 4; direction++) {
            if (x.isSafe(direction)) {
                directions.append(direction);
            }
        }
        return directions.toString();
    }
}
