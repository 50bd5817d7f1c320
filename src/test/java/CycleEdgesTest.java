/** Promises 7 to 9 at their edges, one method for each that the document names. */
public final class CycleEdgesTest {
    private static final Checks T = new Checks("CycleEdgesTest");

    public static void main(String[] args) {
        smallestAndLargestCell();
        firstAndLastPlace();
        wallsHaveNoPlace();
        oneBlockHasFourPlaces();
        placeNoughtIsTheLowestOpenCell();
        placesGoOverTheLastToTheFirst();
        cellsOutOfRange();
        placesOutOfRange();
        placesOutOfRangeOfASmallCycle();
        withoutACycle();
        wallsAlone();
        theCellIsRefusedFirst();
        theCycleIsRefusedFirst();
        withAWorm();
        allSetsOfWalls();
        allSetsOfShutLinks();
        T.close();
    }

    private static void smallestAndLargestCell() {
        Coilworm x = new Coilworm();
        T.due("placeOf(0)", x.placeOf(0), 0);
        T.due("placeOf(35)", x.placeOf(35), 26);
    }

    private static void firstAndLastPlace() {
        Coilworm x = new Coilworm();
        T.due("cellAt(0)", x.cellAt(0), 0);
        T.due("cellAtByRings(0)", x.cellAtByRings(0), 0);
        T.due("cellAt(35)", x.cellAt(35), 6);
        T.due("cellAtByRings(35)", x.cellAtByRings(35), 6);
        T.due("placeOf(6)", x.placeOf(6), 35);
    }

    private static void wallsHaveNoPlace() {
        Coilworm x = new Coilworm();
        x.setWall(0, true);
        x.setWall(8, true);
        for (int cell : new int[] {0, 1, 6, 7, 28, 29, 34, 35}) {
            T.due("a wall: placeOf(" + cell + ")", x.placeOf(cell), Coilworm.NONE);
        }
        T.due("not a wall any more: setWall(0, false)", x.setWall(0, false), true);
        T.due("not a wall any more: placeOf(0)", x.placeOf(0), 0);
    }

    private static void oneBlockHasFourPlaces() {
        int[][] cells = {{0, 1, 7, 6}, {2, 3, 9, 8}, {4, 5, 11, 10}, {12, 13, 19, 18}, {14, 15, 21, 20},
            {16, 17, 23, 22}, {24, 25, 31, 30}, {26, 27, 33, 32}, {28, 29, 35, 34}};
        for (int block = 0; block < 9; block++) {
            Coilworm x = Scenes.open(block);
            for (int place = 0; place < 4; place++) {
                int cell = cells[block][place];
                T.due("the block " + block + ": cellAt(" + place + ")", x.cellAt(place), cell);
                T.due("the block " + block + ": cellAtByRings(" + place + ")", x.cellAtByRings(place), cell);
                T.due("the block " + block + ": placeOf(" + cell + ")", x.placeOf(cell), place);
            }
        }
    }

    private static void placeNoughtIsTheLowestOpenCell() {
        int[] lowest = {0, 2, 4, 12, 14, 16, 24, 26, 28};
        for (int block = 0; block < 9; block++) {
            Coilworm x = new Coilworm();
            for (int wall = 0; wall < block; wall++) {
                x.setWall(wall, true);
            }
            T.due("hasCycle() from the block " + block + " on", x.hasCycle(), true);
            T.due("cellAt(0) from the block " + block + " on", x.cellAt(0), lowest[block]);
            T.due("cellAtByRings(0) from the block " + block + " on", x.cellAtByRings(0), lowest[block]);
            T.due("placeOf from the block " + block + " on", x.placeOf(lowest[block]), 0);
        }
    }

    private static void placesGoOverTheLastToTheFirst() {
        Coilworm x = Scenes.open(0, 1, 4);
        // Round the tree of the links 0 and 7; from 6, the last one, it goes up to 0 again.
        int[] cells = {0, 1, 2, 3, 9, 15, 21, 20, 14, 8, 7, 6};
        for (int place = 0; place < cells.length; place++) {
            T.due("cellAt(" + place + ")", x.cellAt(place), cells[place]);
            T.due("cellAtByRings(" + place + ")", x.cellAtByRings(place), cells[place]);
        }
    }

    private static void cellsOutOfRange() {
        for (int cell : new int[] {-1, 36, Scenes.LOWEST, Scenes.HIGHEST}) {
            T.range("placeOf(" + cell + ")", Coilworm::new, x -> x.placeOf(cell));
        }
    }

    private static void placesOutOfRange() {
        for (int place : new int[] {-1, 36, Scenes.LOWEST, Scenes.HIGHEST}) {
            T.range("cellAt(" + place + ")", Coilworm::new, x -> x.cellAt(place));
            T.range("cellAtByRings(" + place + ")", Coilworm::new, x -> x.cellAtByRings(place));
        }
    }

    private static void placesOutOfRangeOfASmallCycle() {
        for (int blocks = 1; blocks < 9; blocks++) {
            int open = blocks;
            Checks.Maker scene = () -> firstOnes(open);
            int places = 4 * blocks;
            T.due(blocks + " blocks: cellAt(" + (places - 1) + ")", scene.make().cellAt(places - 1), 6);
            T.due(blocks + " blocks: by rings", scene.make().cellAtByRings(places - 1), 6);
            T.range(blocks + " blocks: cellAt(" + places + ")", scene, x -> x.cellAt(places));
            T.range(blocks + " blocks: cellAtByRings(" + places + ")", scene, x -> x.cellAtByRings(places));
            T.range(blocks + " blocks: cellAt(-1)", scene, x -> x.cellAt(-1));
            T.range(blocks + " blocks: cellAtByRings(-1)", scene, x -> x.cellAtByRings(-1));
        }
    }

    private static Coilworm firstOnes(int blocks) {
        Coilworm x = new Coilworm();
        for (int block = blocks; block < 9; block++) {
            x.setWall(block, true);
        }
        return x;
    }

    private static void withoutACycle() {
        for (int number : new int[] {0, 3, 35}) {
            T.state("torn: placeOf(" + number + ")", Scenes::torn, x -> x.placeOf(number));
            T.state("torn: cellAt(" + number + ")", Scenes::torn, x -> x.cellAt(number));
            T.state("torn: cellAtByRings(" + number + ")", Scenes::torn, x -> x.cellAtByRings(number));
        }
        Checks.Maker scene = () -> Scenes.open(0, 8);
        T.state("two blocks apart: placeOf(14), a wall", scene, x -> x.placeOf(14));
        T.state("two blocks apart: placeOf(0)", scene, x -> x.placeOf(0));
        T.state("two blocks apart: cellAt(0)", scene, x -> x.cellAt(0));
        T.state("two blocks apart: cellAtByRings(0)", scene, x -> x.cellAtByRings(0));
    }

    private static void wallsAlone() {
        T.state("walls alone: placeOf(0)", Scenes::wallsAlone, x -> x.placeOf(0));
        T.state("walls alone: placeOf(35)", Scenes::wallsAlone, x -> x.placeOf(35));
        T.state("walls alone: cellAt(0)", Scenes::wallsAlone, x -> x.cellAt(0));
        T.state("walls alone: cellAtByRings(0)", Scenes::wallsAlone, x -> x.cellAtByRings(0));
    }

    private static void theCellIsRefusedFirst() {
        for (int cell : new int[] {-1, 36}) {
            T.range("torn: placeOf(" + cell + ")", Scenes::torn, x -> x.placeOf(cell));
            T.range("walls alone: placeOf(" + cell + ")", Scenes::wallsAlone, x -> x.placeOf(cell));
        }
    }

    private static void theCycleIsRefusedFirst() {
        for (int place : new int[] {-1, 36, Scenes.LOWEST, Scenes.HIGHEST}) {
            T.state("torn: cellAt(" + place + ")", Scenes::torn, x -> x.cellAt(place));
            T.state("torn: cellAtByRings(" + place + ")", Scenes::torn, x -> x.cellAtByRings(place));
            T.state("walls alone: cellAt(" + place + ")", Scenes::wallsAlone, x -> x.cellAt(place));
            T.state("walls alone: cellAtByRings(" + place + ")", Scenes::wallsAlone, x -> x.cellAtByRings(place));
        }
    }

    private static void withAWorm() {
        Coilworm x = Scenes.filled();
        T.due("a worm on all cells: placeOf(35)", x.placeOf(35), 26);
        T.due("a worm on all cells: cellAt(35)", x.cellAt(35), 6);
        T.due("a worm on all cells: cellAtByRings(35)", x.cellAtByRings(35), 6);
        // On this board the link 4 is heavier, so that the cycle goes by the link 10 to the lowest row.
        Coilworm y = Scenes.dead();
        T.due("a dead worm: placeOf(35)", y.placeOf(35), 22);
        T.due("a dead worm: cellAt(22)", y.cellAt(22), 35);
        T.due("a dead worm: cellAtByRings(22)", y.cellAtByRings(22), 35);
    }

    /** Each of the 512 sets of walls, under several weights: by steps and by rings it is one round. */
    private static void allSetsOfWalls() {
        int cycles = 0;
        for (int walls = 0; walls < 512; walls++) {
            for (int weights = 0; weights < 5; weights++) {
                Coilworm x = new Coilworm();
                for (int block = 0; block < 9; block++) {
                    x.setWall(block, (walls >> block & 1) != 0);
                }
                for (int link = 0; link < 12; link++) {
                    x.setLink(link, link * (2 * weights + 1) * 7 % 10);
                }
                if (x.hasCycle()) {
                    cycles++;
                    dueRound("walls " + walls + ", weights " + weights, x, 36 - 4 * Integer.bitCount(walls));
                }
            }
        }
        // As many sets of blocks that hang together as a board of three by three has, five times.
        T.due("sets with a cycle", cycles, 5 * 218);
    }

    /** Each of the 4096 sets of shut links without walls, the trees among the sets that are left included. */
    private static void allSetsOfShutLinks() {
        int cycles = 0;
        for (int shut = 0; shut < 4096; shut++) {
            Coilworm x = new Coilworm();
            for (int link = 0; link < 12; link++) {
                x.setLink(link, (shut >> link & 1) != 0 ? Coilworm.NONE : link * 7 % 10);
            }
            if (x.hasCycle()) {
                cycles++;
                dueRound("shut links " + shut, x, 36);
            }
        }
        // As many sets of links join all nodes of a grid of three by three; 192 of them are its trees.
        T.due("sets of links with a cycle", cycles, 431);
    }

    private static void dueRound(String name, Coilworm x, int places) {
        boolean[] seen = new boolean[36];
        boolean isRound = true;
        for (int place = 0; place < places; place++) {
            int cell = x.cellAt(place);
            int next = x.cellAt((place + 1) % places);
            boolean isBeside = Math.abs(cell / 6 - next / 6) + Math.abs(cell % 6 - next % 6) == 1;
            isRound &= isBeside && !seen[cell] && !x.isWall(cell);
            isRound &= x.placeOf(cell) == place && x.cellAtByRings(place) == cell;
            seen[cell] = true;
        }
        T.due(name + ": is one round", isRound, true);
    }
}
