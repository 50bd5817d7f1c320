/** Promises 1 to 6: the new object, walls, links and the tree. */
public final class BoardTest {
    private static final Checks T = new Checks("BoardTest");

    public static void main(String[] args) {
        newObject();
        walls();
        wallsRefused();
        weights();
        weightsRefused();
        queriesRefused();
        trees();
        cycles();
        T.close();
    }

    private static String tree(Coilworm x) {
        StringBuilder links = new StringBuilder();
        for (int link = 0; link < 12; link++) {
            if (x.isInTree(link)) {
                links.append(links.length() == 0 ? "" : " ").append(link);
            }
        }
        return links.toString();
    }

    private static String wallCells(Coilworm x) {
        StringBuilder cells = new StringBuilder();
        for (int cell = 0; cell < 36; cell++) {
            if (x.isWall(cell)) {
                cells.append(cells.length() == 0 ? "" : " ").append(cell);
            }
        }
        return cells.toString();
    }

    private static void newObject() {
        Coilworm x = new Coilworm();
        T.due("walls of a new object", wallCells(x), "");
        T.due("tree of a new object", tree(x), "0 1 2 3 4 5 6 9");
        T.due("hasCycle()", x.hasCycle(), true);
        T.due("isAlive()", x.isAlive(), false);
        T.due("length()", x.length(), 0);
        T.due("owed()", x.owed(), 0);
        T.due("feeds()", x.feeds(), 0);
        T.due("reach()", x.reach(), 0);
        T.due("isInOrder()", x.isInOrder(), false);
        for (int link = 0; link < 12; link++) {
            T.due("setLink(" + link + ", 0) at first", x.setLink(link, 0), 0);
        }
        for (int block = 0; block < 9; block++) {
            T.due("setWall(" + block + ", false) at first", x.setWall(block, false), false);
        }
        Coilworm other = new Coilworm();
        x.setWall(3, true);
        x.begin(0, 0);
        T.due("another object's walls", wallCells(other), "");
        T.due("another object's worm", other.isAlive(), false);
    }

    private static void walls() {
        String[] cells = {"0 1 6 7", "2 3 8 9", "4 5 10 11", "12 13 18 19", "14 15 20 21", "16 17 22 23",
            "24 25 30 31", "26 27 32 33", "28 29 34 35"};
        for (int block = 0; block < 9; block++) {
            Coilworm x = new Coilworm();
            T.due("setWall(" + block + ", true)", x.setWall(block, true), false);
            T.due("cells of the block " + block, wallCells(x), cells[block]);
            T.due("setWall(" + block + ", true) again", x.setWall(block, true), true);
            T.due("cells of the block again", wallCells(x), cells[block]);
            T.due("setWall(" + block + ", false)", x.setWall(block, false), true);
            T.due("no walls again", wallCells(x), "");
            T.due("setWall(" + block + ", false) again", x.setWall(block, false), false);
        }
        Coilworm x = new Coilworm();
        x.setWall(0, true);
        x.setWall(8, true);
        T.due("two walls", wallCells(x), "0 1 6 7 28 29 34 35");
    }

    private static void wallsRefused() {
        Coilworm x = new Coilworm();
        for (int block : new int[] {-1, 9, 32, Integer.MIN_VALUE, Integer.MAX_VALUE}) {
            T.range("setWall(" + block + ", true)", x, () -> x.setWall(block, true));
            T.range("setWall(" + block + ", false)", x, () -> x.setWall(block, false));
        }
        x.feed(3);
        x.feed(21);
        T.state("setWall(1, true) over a feed", x, () -> x.setWall(1, true));
        T.state("setWall(1, false) over a feed", x, () -> x.setWall(1, false));
        T.state("setWall(4, true) over the second feed", x, () -> x.setWall(4, true));
        T.due("setWall(0, true) beside the feeds", x.setWall(0, true), false);
        T.due("setWall(0, false) beside the feeds", x.setWall(0, false), true);
        x.begin(2, 0);
        T.state("setWall(8, true) with a worm", x, () -> x.setWall(8, true));
        T.state("setWall(8, false) with a worm", x, () -> x.setWall(8, false));
        T.range("setWall(9, true) with a worm", x, () -> x.setWall(9, true));
        x.step(1);
        x.step(0);
        T.due("dead", x.isAlive(), false);
        T.state("setWall(8, true) with a dead worm", x, () -> x.setWall(8, true));
        x.end();
        T.due("setWall(1, true) behind the meal", x.setWall(1, true), false);
        T.state("setWall(4, true) over the feed that is left", x, () -> x.setWall(4, true));
    }

    private static void weights() {
        for (int link = 0; link < 12; link++) {
            Coilworm x = new Coilworm();
            T.due("setLink(" + link + ", 9)", x.setLink(link, 9), 0);
            T.due("setLink(" + link + ", NONE)", x.setLink(link, Coilworm.NONE), 9);
            T.due("shut link in the tree", x.isInTree(link), false);
            T.due("setLink(" + link + ", 0)", x.setLink(link, 0), -1);
            T.due("setLink(" + link + ", 5)", x.setLink(link, 5), 0);
            T.due("setLink(" + link + ", 5) again", x.setLink(link, 5), 5);
        }
    }

    private static void weightsRefused() {
        Coilworm x = new Coilworm();
        x.setLink(3, 7);
        for (int link : new int[] {-1, 12, 35, Integer.MIN_VALUE, Integer.MAX_VALUE}) {
            T.range("setLink(" + link + ", 0)", x, () -> x.setLink(link, 0));
            T.range("setLink(" + link + ", 10)", x, () -> x.setLink(link, 10));
        }
        for (int weight : new int[] {-2, 10, Integer.MIN_VALUE, Integer.MAX_VALUE}) {
            T.argument("setLink(3, " + weight + ")", x, () -> x.setLink(3, weight));
        }
        x.begin(0, 0);
        T.state("setLink(3, 0) with a worm", x, () -> x.setLink(3, 0));
        T.state("setLink(3, 7) with a worm", x, () -> x.setLink(3, 7));
        T.argument("setLink(3, 10) with a worm", x, () -> x.setLink(3, 10));
        T.range("setLink(12, 10) with a worm", x, () -> x.setLink(12, 10));
        x.step(0);
        T.state("setLink(3, 0) with a dead worm", x, () -> x.setLink(3, 0));
        x.end();
        T.due("the weight behind all that", x.setLink(3, 1), 7);
        x.feed(8);
        T.due("setLink with a feed", x.setLink(3, 2), 1);
    }

    private static void queriesRefused() {
        Coilworm x = new Coilworm();
        for (int cell : new int[] {-1, 36, Integer.MIN_VALUE, Integer.MAX_VALUE}) {
            T.range("isWall(" + cell + ")", x, () -> x.isWall(cell));
        }
        for (int link : new int[] {-1, 12, 32, Integer.MIN_VALUE, Integer.MAX_VALUE}) {
            T.range("isInTree(" + link + ")", x, () -> x.isInTree(link));
        }
    }

    private static void trees() {
        Coilworm x = new Coilworm();
        x.setLink(0, 5);
        x.setLink(6, 9);
        T.due("heavy links last", tree(x), "0 1 2 3 4 5 7 9");
        x.setLink(7, 9);
        T.due("of as heavy ones the lower number first", tree(x), "0 1 2 3 4 5 8 9");
        x.setLink(8, 9);
        T.due("all three as heavy", tree(x), "0 1 2 3 4 5 6 9");
        for (int link = 0; link < 6; link++) {
            x.setLink(link, 3);
        }
        for (int link = 6; link < 12; link++) {
            x.setLink(link, 2);
        }
        T.due("the columns first", tree(x), "0 1 6 7 8 9 10 11");
        x.setLink(0, Coilworm.NONE);
        T.due("shut, another one in its place", tree(x), "1 2 6 7 8 9 10 11");
        x.setWall(4, true);
        T.due("no link to a wall", tree(x), "1 4 5 6 8 9 11");
        x.setWall(7, true);
        T.due("a tree in two parts", tree(x), "1 6 8 9 11");
        x.setWall(4, false);
        x.setWall(7, false);
        T.due("as ahead of the walls", tree(x), "1 2 6 7 8 9 10 11");
        Coilworm y = new Coilworm();
        for (int link = 0; link < 12; link++) {
            y.setLink(link, 5);
        }
        y.setLink(6, 1);
        y.setLink(2, 2);
        y.setLink(7, 3);
        T.due("0, 3, 4 and 1 joined first, the link 0 is too many", tree(y), "1 2 3 4 5 6 7 9");
        T.due("hasCycle()", y.hasCycle(), true);
    }

    private static void cycles() {
        Coilworm x = new Coilworm();
        for (int block = 0; block < 8; block++) {
            x.setWall(block, true);
        }
        T.due("hasCycle() of one block", x.hasCycle(), true);
        T.due("tree of one block", tree(x), "");
        x.setWall(8, true);
        T.due("hasCycle() of none", x.hasCycle(), false);
        x.setWall(0, false);
        x.setWall(1, false);
        T.due("hasCycle() of two", x.hasCycle(), true);
        x.setLink(0, Coilworm.NONE);
        T.due("hasCycle() of two that nothing joins", x.hasCycle(), false);
        x.setWall(0, true);
        x.setWall(8, false);
        T.due("hasCycle() of two far ones", x.hasCycle(), false);
        Coilworm y = new Coilworm();
        y.setLink(5, Coilworm.NONE);
        T.due("hasCycle() with one way to the block 8", y.hasCycle(), true);
        y.setLink(11, Coilworm.NONE);
        T.due("hasCycle() with none", y.hasCycle(), false);
        y.setWall(8, true);
        T.due("hasCycle() without the block 8", y.hasCycle(), true);
    }
}
