/** Promises 1 to 6: walls, links and the tree. */
public final class BoardTest {
    private static final Checks T = new Checks("BoardTest");

    public static void main(String[] args) {
        walls();
        weights();
        trees();
        cycles();
        T.close();
    }

    private static void walls() {
        String[] cells = {"0 1 6 7", "2 3 8 9", "4 5 10 11", "12 13 18 19", "14 15 20 21", "16 17 22 23",
            "24 25 30 31", "26 27 32 33", "28 29 34 35"};
        for (int block = 0; block < 9; block++) {
            Coilworm x = new Coilworm();
            T.due("setWall(" + block + ", true)", x.setWall(block, true), false);
            T.due("cells of the block " + block, Scenes.wallCells(x), cells[block]);
            T.due("setWall(" + block + ", true) again", x.setWall(block, true), true);
            T.due("cells of the block again", Scenes.wallCells(x), cells[block]);
            T.due("setWall(" + block + ", false)", x.setWall(block, false), true);
            T.due("no walls again", Scenes.wallCells(x), "");
            T.due("setWall(" + block + ", false) again", x.setWall(block, false), false);
        }
        Coilworm x = new Coilworm();
        x.setWall(0, true);
        x.setWall(8, true);
        T.due("two walls", Scenes.wallCells(x), "0 1 6 7 28 29 34 35");
    }

    private static void weights() {
        for (int link = 0; link < 12; link++) {
            Coilworm x = new Coilworm();
            T.due("setLink(" + link + ", 9)", x.setLink(link, 9), 0);
            T.due("setLink(" + link + ", NONE)", x.setLink(link, Coilworm.NONE), 9);
            T.due("shut link in the tree", x.isInTree(link), false);
            T.due("setLink(" + link + ", 0)", x.setLink(link, 0), -1);
            T.due("setLink(" + link + ", 5)", x.setLink(link, 5), 0);
            T.due("setLink(" + link + ", 5) again", x.setLink(link, 5), 5);
        }
    }

    private static void trees() {
        Coilworm x = new Coilworm();
        T.due("all as heavy", Scenes.tree(x), "0 1 2 3 4 5 6 9");
        x.setLink(0, 5);
        x.setLink(6, 9);
        T.due("heavy links last", Scenes.tree(x), "0 1 2 3 4 5 7 9");
        x.setLink(7, 9);
        T.due("of as heavy ones the lower number first", Scenes.tree(x), "0 1 2 3 4 5 8 9");
        x.setLink(8, 9);
        T.due("all three as heavy", Scenes.tree(x), "0 1 2 3 4 5 6 9");
        for (int link = 0; link < 6; link++) {
            x.setLink(link, 3);
        }
        for (int link = 6; link < 12; link++) {
            x.setLink(link, 2);
        }
        T.due("the columns first", Scenes.tree(x), "0 1 6 7 8 9 10 11");
        x.setLink(0, Coilworm.NONE);
        T.due("shut, another one in its place", Scenes.tree(x), "1 2 6 7 8 9 10 11");
        x.setWall(4, true);
        T.due("no link to a wall", Scenes.tree(x), "1 4 5 6 8 9 11");
        x.setWall(7, true);
        T.due("a tree in two parts", Scenes.tree(x), "1 6 8 9 11");
        x.setWall(4, false);
        x.setWall(7, false);
        T.due("as ahead of the walls", Scenes.tree(x), "1 2 6 7 8 9 10 11");
        Coilworm y = new Coilworm();
        for (int link = 0; link < 12; link++) {
            y.setLink(link, 5);
        }
        y.setLink(6, 1);
        y.setLink(2, 2);
        y.setLink(7, 3);
        T.due("0, 3, 4 and 1 joined first, the link 0 is too many", Scenes.tree(y), "1 2 3 4 5 6 7 9");
        T.due("hasCycle()", y.hasCycle(), true);
    }

    private static void cycles() {
        Coilworm x = new Coilworm();
        for (int block = 0; block < 8; block++) {
            x.setWall(block, true);
        }
        T.due("hasCycle() of one block", x.hasCycle(), true);
        T.due("tree of one block", Scenes.tree(x), "");
        x.setWall(8, true);
        T.due("hasCycle() of none", x.hasCycle(), false);
        x.setWall(0, false);
        x.setWall(1, false);
        T.due("hasCycle() of two", x.hasCycle(), true);
        x.setLink(0, Coilworm.NONE);
        T.due("hasCycle() of two that nothing joins", x.hasCycle(), false);
        x.setWall(0, true);
        x.setWall(8, false);
        T.due("hasCycle() of two far ones", x.hasCycle(), false);
        Coilworm y = new Coilworm();
        y.setLink(5, Coilworm.NONE);
        T.due("hasCycle() with one way to the block 8", y.hasCycle(), true);
        y.setLink(11, Coilworm.NONE);
        T.due("hasCycle() with none", y.hasCycle(), false);
        y.setWall(8, true);
        T.due("hasCycle() without the block 8", y.hasCycle(), true);
    }
}
