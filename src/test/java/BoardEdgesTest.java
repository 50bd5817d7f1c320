/** Promises 1 to 6 at their edges, one method for each that the document names. */
public final class BoardEdgesTest {
    private static final Checks T = new Checks("BoardEdgesTest");
    private static final int U = Scenes.U;
    private static final int R = Scenes.R;
    private static final int D = Scenes.D;
    private static final int L = Scenes.L;

    public static void main(String[] args) {
        newObjects();
        setWalls();
        setWallsRefused();
        setLinks();
        setLinksRefused();
        isWalls();
        isInTrees();
        hasCycles();
        T.close();
    }

    // ---- promise 1: a new object

    private static void newObjects() {
        newHasNoWall();
        newHasAllLinksOpen();
        newHasNoWorm();
        newHasNoFeed();
        newOnesAreApart();
    }

    private static void newHasNoWall() {
        Coilworm x = new Coilworm();
        T.due("walls of a new object", Scenes.wallCells(x), "");
        for (int block = 0; block < 9; block++) {
            T.due("new: setWall(" + block + ", false)", x.setWall(block, false), false);
        }
    }

    private static void newHasAllLinksOpen() {
        Coilworm x = new Coilworm();
        int[][] ways = {{1, R}, {3, R}, {13, R}, {15, R}, {25, R}, {27, R},
            {6, D}, {8, D}, {10, D}, {18, D}, {20, D}, {22, D}};
        for (int link = 0; link < 12; link++) {
            x.begin(ways[link][0], 0);
            T.due("new: a step over the link " + link, x.step(ways[link][1]), 1);
            x.end();
        }
        for (int link = 0; link < 12; link++) {
            T.due("new: setLink(" + link + ", 0)", x.setLink(link, 0), 0);
        }
    }

    private static void newHasNoWorm() {
        Coilworm x = new Coilworm();
        T.due("new: isAlive()", x.isAlive(), false);
        T.due("new: worm", Scenes.worm(x), " +0 feeds 0");
        T.due("new: length()", x.length(), 0);
        T.due("new: isInOrder()", x.isInOrder(), false);
        T.due("new: reach()", x.reach(), 0);
        T.state("new: end()", Coilworm::new, y -> y.end());
        T.range("new: bodyAt(0)", Coilworm::new, y -> y.bodyAt(0));
    }

    private static void newHasNoFeed() {
        Coilworm x = new Coilworm();
        T.due("new: feeds()", x.feeds(), 0);
        x.begin(14, 0);
        T.due("new: fewest()", x.fewest(), Coilworm.NONE);
        T.due("new: fewestByBodies()", x.fewestByBodies(), Coilworm.NONE);
        T.due("new: safe", Scenes.safe(x), "");
        T.due("new: play(50)", x.play(50), 0);
    }

    private static void newOnesAreApart() {
        Coilworm x = new Coilworm();
        Coilworm y = new Coilworm();
        x.setWall(3, true);
        x.setLink(1, 4);
        x.feed(35);
        x.begin(0, 5);
        x.step(R);
        T.due("beside a used object", Looks.at(y), Looks.at(new Coilworm()));
    }

    // ---- promise 2: setWall

    private static void setWalls() {
        setWallOfTheSmallestBlock();
        setWallOfTheLargestBlock();
        setWallTwice();
        setWallOnAllBlocks();
        setWallBesideFeeds();
        setWallBehindAMeal();
        setWallBehindAWorm();
    }

    private static void setWallOfTheSmallestBlock() {
        Coilworm x = new Coilworm();
        T.due("setWall(0, true)", x.setWall(0, true), false);
        T.due("the block 0", Scenes.wallCells(x), "0 1 6 7");
    }

    private static void setWallOfTheLargestBlock() {
        Coilworm x = new Coilworm();
        T.due("setWall(8, true)", x.setWall(8, true), false);
        T.due("the block 8", Scenes.wallCells(x), "28 29 34 35");
    }

    private static void setWallTwice() {
        Coilworm x = new Coilworm();
        T.due("setWall(2, false) of none", x.setWall(2, false), false);
        T.due("setWall(2, true) of none", x.setWall(2, true), false);
        T.due("setWall(2, true) of one", x.setWall(2, true), true);
        T.due("still one", Scenes.wallCells(x), "4 5 10 11");
        T.due("setWall(2, false) of one", x.setWall(2, false), true);
        T.due("setWall(2, false) of none again", x.setWall(2, false), false);
        T.due("none", Scenes.wallCells(x), "");
    }

    private static void setWallOnAllBlocks() {
        Coilworm x = new Coilworm();
        for (int block = 0; block < 9; block++) {
            T.due("to walls alone: setWall(" + block + ", true)", x.setWall(block, true), false);
        }
        for (int block = 0; block < 9; block++) {
            T.due("walls alone: setWall(" + block + ", true)", x.setWall(block, true), true);
        }
        for (int block = 0; block < 9; block++) {
            T.due("from walls alone: setWall(" + block + ", false)", x.setWall(block, false), true);
        }
        T.due("no walls any more", Looks.at(x), Looks.at(new Coilworm()));
    }

    private static void setWallBesideFeeds() {
        for (int cell : new int[] {14, 15, 20, 21}) {
            Coilworm x = new Coilworm();
            x.feed(cell);
            for (int block = 0; block < 9; block++) {
                if (block != 4) {
                    T.due("a feed on " + cell + ": setWall(" + block + ", true)", x.setWall(block, true), false);
                }
            }
        }
    }

    private static void setWallBehindAMeal() {
        Coilworm x = new Coilworm();
        x.feed(3);
        x.begin(4, 0);
        x.step(L);
        x.step(R);
        x.end();
        T.due("the only feed is eaten: setWall(1, true)", x.setWall(1, true), false);
    }

    private static void setWallBehindAWorm() {
        Coilworm x = Scenes.dead();
        x.end();
        T.due("the worm is taken away: setWall(0, true)", x.setWall(0, true), false);
    }

    private static void setWallsRefused() {
        setWallOutOfRange();
        setWallOverAFeed();
        setWallOverTheLastOfTheRow();
        setWallOverTheLastOfAFullRow();
        setWallOverAFeedThatWasOnlyForeseen();
        setWallWithAWorm();
        setWallOutOfRangeFirst();
    }

    private static void setWallOutOfRange() {
        for (int block : new int[] {-1, 9, Scenes.LOWEST, Scenes.HIGHEST}) {
            T.range("setWall(" + block + ", true)", Coilworm::new, x -> x.setWall(block, true));
            T.range("setWall(" + block + ", false)", Coilworm::new, x -> x.setWall(block, false));
        }
    }

    private static void setWallOverAFeed() {
        for (int cell : new int[] {14, 15, 20, 21}) {
            Checks.Maker scene = () -> Scenes.fed(cell);
            T.state("a feed on " + cell + ": setWall(4, true)", scene, x -> x.setWall(4, true));
            T.state("a feed on " + cell + ": setWall(4, false)", scene, x -> x.setWall(4, false));
        }
    }

    private static void setWallOverTheLastOfTheRow() {
        for (int feeds = 1; feeds < 40; feeds++) {
            int others = feeds - 1;
            Checks.Maker scene = () -> Scenes.fedBehind(others, 21);
            T.state("the last one of " + feeds + " there: setWall(4, true)", scene, x -> x.setWall(4, true));
            T.due(feeds + " feeds, none there: setWall(1, true)", scene.make().setWall(1, true), false);
        }
    }

    private static void setWallOverTheLastOfAFullRow() {
        T.state("40 feeds, the last one there: setWall(8, true)", Scenes::fullRow, x -> x.setWall(8, true));
        T.state("40 feeds, the others there: setWall(0, true)", Scenes::fullRow, x -> x.setWall(0, true));
        T.due("40 feeds, none there: setWall(4, true)", Scenes.fullRow().setWall(4, true), false);
    }

    private static void setWallOverAFeedThatWasOnlyForeseen() {
        Checks.Maker scene = () -> {
            Coilworm x = Scenes.fed(15);
            x.begin(14, 0);
            x.isSafe(R);
            x.livesFor(6);
            x.fewest();
            x.fewestByBodies();
            x.end();
            return x;
        };
        T.state("the feed was only foreseen as eaten: setWall(4, true)", scene, x -> x.setWall(4, true));
    }

    private static void setWallWithAWorm() {
        T.state("a worm: setWall(8, true)", Scenes::living, x -> x.setWall(8, true));
        T.state("a worm: setWall(8, false)", Scenes::living, x -> x.setWall(8, false));
        T.state("a dead worm: setWall(8, true)", Scenes::dead, x -> x.setWall(8, true));
        T.state("a worm on all cells: setWall(0, true)", Scenes::filled, x -> x.setWall(0, true));
    }

    private static void setWallOutOfRangeFirst() {
        T.range("a worm: setWall(9, true)", Scenes::living, x -> x.setWall(9, true));
        T.range("a dead worm: setWall(-1, false)", Scenes::dead, x -> x.setWall(-1, false));
    }

    // ---- promise 3: setLink

    private static void setLinks() {
        setLinkOfTheSmallestLink();
        setLinkOfTheLargestLink();
        setLinkToTheSmallestWeight();
        setLinkToTheLargestWeight();
        setLinkToNone();
        setLinkToTheSame();
        setLinkBetweenWalls();
        setLinkWithAFullRow();
        setLinkBehindAWorm();
    }

    private static void setLinkOfTheSmallestLink() {
        Coilworm x = new Coilworm();
        T.due("setLink(0, 9)", x.setLink(0, 9), 0);
        T.due("the link 0 comes last", Scenes.tree(x), "1 2 3 4 5 6 7 9");
    }

    private static void setLinkOfTheLargestLink() {
        Coilworm x = new Coilworm();
        x.setLink(5, 9);
        T.due("setLink(11, 8)", x.setLink(11, 8), 0);
        T.due("the link 11 comes ahead of the link 5", Scenes.tree(x), "0 1 2 3 4 6 9 11");
    }

    private static void setLinkToTheSmallestWeight() {
        Coilworm x = new Coilworm();
        x.setLink(3, 1);
        T.due("setLink(3, 0)", x.setLink(3, 0), 1);
        T.due("setLink(3, 1) then", x.setLink(3, 1), 0);
    }

    private static void setLinkToTheLargestWeight() {
        Coilworm x = new Coilworm();
        T.due("setLink(3, 9)", x.setLink(3, 9), 0);
        T.due("the link of 9 is left out", Scenes.tree(x), "0 1 2 4 5 6 8 9");
        x.setLink(7, Coilworm.NONE);
        x.setLink(8, Coilworm.NONE);
        x.setLink(11, Coilworm.NONE);
        T.due("the link of 9 is open", Scenes.tree(x), "0 1 2 3 4 5 6 9");
        T.due("setLink(3, 8) then", x.setLink(3, 8), 9);
    }

    private static void setLinkToNone() {
        Coilworm x = new Coilworm();
        T.due("setLink(5, NONE)", x.setLink(5, Coilworm.NONE), 0);
        x.setLink(11, Coilworm.NONE);
        T.due("nothing leads to the block 8", x.hasCycle(), false);
        T.due("setLink(5, 0) then", x.setLink(5, 0), Coilworm.NONE);
        T.due("one link leads to it again", x.hasCycle(), true);
    }

    private static void setLinkToTheSame() {
        Coilworm x = new Coilworm();
        x.setLink(7, 5);
        x.setLink(8, Coilworm.NONE);
        T.due("setLink(7, 5) again", x.setLink(7, 5), 5);
        T.due("setLink(8, NONE) again", x.setLink(8, Coilworm.NONE), Coilworm.NONE);
        T.due("still so", x.setLink(8, 0) + " " + x.setLink(7, 0), "-1 5");
    }

    private static void setLinkBetweenWalls() {
        Coilworm x = Scenes.wallsAlone();
        T.due("walls alone: setLink(0, 4)", x.setLink(0, 4), 0);
        T.due("walls alone: setLink(0, NONE)", x.setLink(0, Coilworm.NONE), 4);
        x.setWall(0, false);
        x.setWall(1, false);
        T.due("the link is shut without the walls too", x.hasCycle(), false);
    }

    private static void setLinkWithAFullRow() {
        Coilworm x = Scenes.fullRow();
        T.due("40 feeds: setLink(0, NONE)", x.setLink(0, Coilworm.NONE), 0);
        T.due("40 feeds: setLink(11, 9)", x.setLink(11, 9), 0);
    }

    private static void setLinkBehindAWorm() {
        Coilworm x = Scenes.living();
        x.end();
        T.due("the worm is taken away: setLink(4, 9)", x.setLink(4, 9), 3);
    }

    private static void setLinksRefused() {
        setLinkOutOfRange();
        setLinkToAWeightOutOfRange();
        setLinkWithAWorm();
        setLinkRefusesTheLinkFirst();
        setLinkRefusesTheWeightSecond();
    }

    private static void setLinkOutOfRange() {
        for (int link : new int[] {-1, 12, Scenes.LOWEST, Scenes.HIGHEST}) {
            T.range("setLink(" + link + ", 0)", Coilworm::new, x -> x.setLink(link, 0));
        }
    }

    private static void setLinkToAWeightOutOfRange() {
        for (int weight : new int[] {-2, 10, Scenes.LOWEST, Scenes.HIGHEST}) {
            T.argument("setLink(0, " + weight + ")", Coilworm::new, x -> x.setLink(0, weight));
            T.argument("setLink(11, " + weight + ")", Coilworm::new, x -> x.setLink(11, weight));
        }
    }

    private static void setLinkWithAWorm() {
        T.state("a worm: setLink(4, 0)", Scenes::living, x -> x.setLink(4, 0));
        T.state("a worm: setLink(4, 3) again", Scenes::living, x -> x.setLink(4, 3));
        T.state("a dead worm: setLink(4, NONE)", Scenes::dead, x -> x.setLink(4, Coilworm.NONE));
        T.state("a worm on all cells: setLink(0, 9)", Scenes::filled, x -> x.setLink(0, 9));
    }

    private static void setLinkRefusesTheLinkFirst() {
        T.range("setLink(12, 10)", Coilworm::new, x -> x.setLink(12, 10));
        T.range("a worm: setLink(-1, 0)", Scenes::living, x -> x.setLink(-1, 0));
        T.range("a dead worm: setLink(12, -2)", Scenes::dead, x -> x.setLink(12, -2));
    }

    private static void setLinkRefusesTheWeightSecond() {
        T.argument("a worm: setLink(0, 10)", Scenes::living, x -> x.setLink(0, 10));
        T.argument("a dead worm: setLink(11, -2)", Scenes::dead, x -> x.setLink(11, -2));
    }

    // ---- promise 4: isWall

    private static void isWalls() {
        isWallOnWallsAlone();
        isWallOutOfRange();
        isWallRoundOneBlock();
    }

    private static void isWallOnWallsAlone() {
        Coilworm x = Scenes.wallsAlone();
        for (int cell = 0; cell < 36; cell++) {
            T.due("walls alone: isWall(" + cell + ")", x.isWall(cell), true);
        }
    }

    private static void isWallOutOfRange() {
        for (int cell : new int[] {-1, 36, Scenes.LOWEST, Scenes.HIGHEST}) {
            T.range("isWall(" + cell + ")", Coilworm::new, x -> x.isWall(cell));
            T.range("walls alone: isWall(" + cell + ")", Scenes::wallsAlone, x -> x.isWall(cell));
            T.range("a worm: isWall(" + cell + ")", Scenes::living, x -> x.isWall(cell));
        }
    }

    private static void isWallRoundOneBlock() {
        T.due("walls round the block 4", Scenes.wallCells(Scenes.open(4)),
                "0 1 2 3 4 5 6 7 8 9 10 11 12 13 16 17 18 19 22 23 24 25 26 27 28 29 30 31 32 33 34 35");
        Coilworm x = Scenes.open(4);
        x.begin(14, 20);
        T.due("a worm's cell: isWall(14)", x.isWall(14), false);
        x.step(U);
        T.due("a dead worm's cell: isWall(14)", x.isWall(14), false);
        T.due("where it died: isWall(8)", x.isWall(8), true);
    }

    // ---- promise 5: isInTree

    private static void isInTrees() {
        isInTreeOutOfRange();
        treeOfWallsAlone();
        treeOfOneBlock();
        treeTakesTheLowerNumberOfAsHeavyLinks();
        treeTakesTheLowerWeightOfTwo();
        treeWithoutShutLinks();
        treeOfAllLinksShut();
        treeThatDoesNotJoinAll();
    }

    private static void isInTreeOutOfRange() {
        for (int link : new int[] {-1, 12, Scenes.LOWEST, Scenes.HIGHEST}) {
            T.range("isInTree(" + link + ")", Coilworm::new, x -> x.isInTree(link));
            T.range("walls alone: isInTree(" + link + ")", Scenes::wallsAlone, x -> x.isInTree(link));
        }
    }

    private static void treeOfWallsAlone() {
        T.due("tree of walls alone", Scenes.tree(Scenes.wallsAlone()), "");
    }

    private static void treeOfOneBlock() {
        for (int block = 0; block < 9; block++) {
            T.due("tree of the block " + block, Scenes.tree(Scenes.open(block)), "");
        }
    }

    private static void treeTakesTheLowerNumberOfAsHeavyLinks() {
        // The four blocks at the lower right: the links 3, 5, 10 and 11 go round.
        Coilworm x = Scenes.open(4, 5, 7, 8);
        T.due("all of weight 0", Scenes.tree(x), "3 5 10");
        for (int link : new int[] {3, 5, 10, 11}) {
            x.setLink(link, 9);
        }
        T.due("all of weight 9", Scenes.tree(x), "3 5 10");
    }

    private static void treeTakesTheLowerWeightOfTwo() {
        Coilworm x = Scenes.open(4, 5, 7, 8);
        for (int weight = 0; weight < 9; weight++) {
            x.setLink(3, weight + 1);
            x.setLink(5, weight);
            x.setLink(10, weight);
            x.setLink(11, weight);
            T.due("the link 3 heavier than " + weight, Scenes.tree(x), "5 10 11");
        }
    }

    private static void treeWithoutShutLinks() {
        for (int link = 0; link < 12; link++) {
            Coilworm x = new Coilworm();
            x.setLink(link, Coilworm.NONE);
            T.due("shut: isInTree(" + link + ")", x.isInTree(link), false);
            T.due("shut: hasCycle()", x.hasCycle(), true);
        }
    }

    private static void treeOfAllLinksShut() {
        Coilworm x = new Coilworm();
        for (int link = 0; link < 12; link++) {
            x.setLink(link, Coilworm.NONE);
        }
        T.due("tree of shut links alone", Scenes.tree(x), "");
        T.due("shut links alone: hasCycle()", x.hasCycle(), false);
    }

    private static void treeThatDoesNotJoinAll() {
        T.due("tree of a torn board", Scenes.tree(Scenes.torn()), "1 2 3 4 5 7 9");
    }

    // ---- promise 6: hasCycle

    private static void hasCycles() {
        noCycleOfWallsAlone();
        aCycleWithoutWalls();
        aCycleOfAnyOneBlock();
        twoBlocksNeedTheirLink();
        aCycleIsThereWithAWorm();
    }

    private static void noCycleOfWallsAlone() {
        T.due("walls alone: hasCycle()", Scenes.wallsAlone().hasCycle(), false);
    }

    private static void aCycleWithoutWalls() {
        T.due("no walls: hasCycle()", new Coilworm().hasCycle(), true);
        T.due("torn: hasCycle()", Scenes.torn().hasCycle(), false);
    }

    private static void aCycleOfAnyOneBlock() {
        for (int block = 0; block < 9; block++) {
            T.due("the block " + block + ": hasCycle()", Scenes.open(block).hasCycle(), true);
        }
    }

    private static void twoBlocksNeedTheirLink() {
        int[][] ends = {{0, 1}, {1, 2}, {3, 4}, {4, 5}, {6, 7}, {7, 8}, {0, 3}, {1, 4}, {2, 5}, {3, 6}, {4, 7}, {5, 8}};
        for (int link = 0; link < 12; link++) {
            Coilworm x = Scenes.open(ends[link]);
            T.due("two blocks and the link " + link, x.hasCycle(), true);
            T.due("their tree", Scenes.tree(x), "" + link);
            x.setLink(link, Coilworm.NONE);
            T.due("two blocks without the link " + link, x.hasCycle(), false);
        }
        for (int[] apart : new int[][] {{0, 2}, {2, 3}, {5, 6}, {0, 4}, {1, 3}, {0, 8}, {2, 8}}) {
            T.due("apart: " + apart[0] + " " + apart[1], Scenes.open(apart).hasCycle(), false);
        }
    }

    private static void aCycleIsThereWithAWorm() {
        T.due("a worm: hasCycle()", Scenes.living().hasCycle(), true);
        T.due("a dead worm: hasCycle()", Scenes.dead().hasCycle(), true);
        T.due("a worm on all cells: hasCycle()", Scenes.filled().hasCycle(), true);
    }
}
