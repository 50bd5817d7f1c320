/** Promises 7 to 9: placeOf, cellAt, cellAtByRings. */
public final class CycleTest {
    private static final Checks T = new Checks("CycleTest");

    public static void main(String[] args) {
        newObject();
        columnsFirst();
        roundAWall();
        oneBlock();
        lowestCellIsPlaceNought();
        T.close();
    }

    private static void dueCycle(String name, Coilworm x, int... cells) {
        boolean[] isOnIt = new boolean[36];
        for (int place = 0; place < cells.length; place++) {
            T.due(name + ": cellAt(" + place + ")", x.cellAt(place), cells[place]);
            T.due(name + ": cellAtByRings(" + place + ")", x.cellAtByRings(place), cells[place]);
            T.due(name + ": placeOf(" + cells[place] + ")", x.placeOf(cells[place]), place);
            isOnIt[cells[place]] = true;
        }
        for (int cell = 0; cell < 36; cell++) {
            if (!isOnIt[cell]) {
                T.due(name + ": placeOf(" + cell + ")", x.placeOf(cell), -1);
            }
        }
    }

    private static void newObject() {
        dueCycle("new", new Coilworm(), 0, 1, 2, 3, 4, 5, 11, 10, 9, 8, 7, 13, 14, 15, 16, 17, 23, 22, 21, 20, 19,
                25, 26, 27, 28, 29, 35, 34, 33, 32, 31, 30, 24, 18, 12, 6);
    }

    private static void columnsFirst() {
        Coilworm x = new Coilworm();
        for (int link = 0; link < 6; link++) {
            x.setLink(link, 1);
        }
        dueCycle("columns", x, 0, 1, 2, 3, 4, 5, 11, 17, 23, 29, 35, 34, 28, 22, 16, 10, 9, 15, 21, 27, 33,
                32, 26, 20, 14, 8, 7, 13, 19, 25, 31, 30, 24, 18, 12, 6);
    }

    private static void roundAWall() {
        Coilworm x = new Coilworm();
        x.setWall(4, true);
        // The tree: 0 1 4 5 6 8 9; the link 11 would close it.
        dueCycle("round a wall", x, 0, 1, 2, 3, 4, 5, 11, 17, 23, 22, 16, 10, 9, 8, 7, 13, 19, 25, 26, 27, 28,
                29, 35, 34, 33, 32, 31, 30, 24, 18, 12, 6);
    }

    private static void oneBlock() {
        Coilworm x = new Coilworm();
        for (int block = 0; block < 9; block++) {
            x.setWall(block, block != 4);
        }
        dueCycle("one block", x, 14, 15, 21, 20);
    }

    private static void lowestCellIsPlaceNought() {
        Coilworm x = new Coilworm();
        for (int block = 0; block < 9; block++) {
            x.setWall(block, block != 2 && block != 5 && block != 4);
        }
        dueCycle("a corner", x, 4, 5, 11, 17, 23, 22, 21, 20, 14, 15, 16, 10);
    }
}
