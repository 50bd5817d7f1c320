/** A game of a growing worm on a small board; ../shared/DOC.md says what each call answers. */
public final class Coilworm {
    public static final int NONE = -1;

    private static final int SIDE = 6;
    private static final int CELLS = 36;
    private static final int BLOCKS_IN_A_ROW = 3;
    private static final int BLOCKS = 9;
    private static final int CELLS_OF_A_BLOCK = 4;
    private static final int LINKS_BESIDE = 6;
    private static final int LINKS = 12;
    private static final int HEAVIEST = 9;

    private static final int UP = 0;
    private static final int RIGHT = 1;
    private static final int DOWN = 2;
    private static final int DIRECTIONS = 4;

    private static final int MOST_OWED_AT_FIRST = 20;
    private static final int MOST_FEEDS = 40;
    private static final int GROWTH_OF_A_FEED = 2;
    private static final int MOST_PLAYED = 50;
    private static final int DEEPEST = 6;

    private final Board board = new Board();
    private final Cycle cycle = new Cycle(board);
    private final FeedRow row = new FeedRow();
    private final Worm worm = new Worm(board, row);
    private final Player player = new Player(cycle, row, worm);
    private final Foresight foresight = new Foresight(board, row, worm);

    public Coilworm() {
        cycle.layOut();
    }

    // ---- the board

    public boolean setWall(int block, boolean isWall) throws IndexOutOfBoundsException, IllegalStateException {
        if (block < 0 || block >= BLOCKS) {
            throw new IndexOutOfBoundsException("no such block");
        }
        if (worm.isThere() || row.hasOneIn(block)) {
            throw new IllegalStateException("there is a worm, or a feed is in the block");
        }
        boolean before = board.hasWallOn(block);
        board.putWall(block, isWall);
        cycle.layOut();
        return before;
    }

    public int setLink(int link, int weight)
            throws IndexOutOfBoundsException, IllegalArgumentException, IllegalStateException {
        checkLink(link);
        if (weight != NONE && (weight < 0 || weight > HEAVIEST)) {
            throw new IllegalArgumentException("weight is out of range");
        }
        if (worm.isThere()) {
            throw new IllegalStateException("there is a worm");
        }
        int before = board.weightOf(link);
        board.putWeight(link, weight);
        cycle.layOut();
        return before;
    }

    public boolean isWall(int cell) throws IndexOutOfBoundsException {
        checkCell(cell);
        return board.hasWallOn(Board.blockOf(cell));
    }

    public boolean isInTree(int link) throws IndexOutOfBoundsException {
        checkLink(link);
        return board.treeHas(link);
    }

    public boolean hasCycle() {
        return cycle.isThere();
    }

    public int placeOf(int cell) throws IndexOutOfBoundsException, IllegalStateException {
        checkCell(cell);
        checkCycle();
        return cycle.placeWith(cell);
    }

    public int cellAt(int place) throws IllegalStateException, IndexOutOfBoundsException {
        checkCycle();
        checkPlaceOfCycle(place);
        return cycle.cellWith(place);
    }

    public int cellAtByRings(int place) throws IllegalStateException, IndexOutOfBoundsException {
        checkCycle();
        checkPlaceOfCycle(place);
        return cycle.cellByRings(place);
    }

    // ---- the worm

    public void begin(int cell, int owed)
            throws IndexOutOfBoundsException, IllegalArgumentException, IllegalStateException {
        checkCell(cell);
        if (owed < 0 || owed > MOST_OWED_AT_FIRST) {
            throw new IllegalArgumentException("owed is out of range");
        }
        if (worm.isThere() || board.hasWallOn(Board.blockOf(cell))) {
            throw new IllegalStateException("there is a worm, or the cell is a wall");
        }
        worm.lay(cell, owed);
    }

    public int end() throws IllegalStateException {
        if (!worm.isThere()) {
            throw new IllegalStateException("there is no worm");
        }
        int cells = worm.size();
        worm.takeAway();
        return cells;
    }

    public int feed(int cell) throws IndexOutOfBoundsException, IllegalStateException {
        checkCell(cell);
        if (board.hasWallOn(Board.blockOf(cell)) || row.size() >= MOST_FEEDS) {
            throw new IllegalStateException("the cell is a wall, or the row is full");
        }
        row.add(cell);
        return row.size();
    }

    public int step(int direction) throws IndexOutOfBoundsException, IllegalStateException {
        checkDirection(direction);
        checkLivingWorm();
        if (worm.advance(direction)) {
            return worm.size();
        }
        worm.die();
        return 0;
    }

    public int play(int most) throws IllegalArgumentException, IllegalStateException {
        if (most < 1 || most > MOST_PLAYED) {
            throw new IllegalArgumentException("most is out of range");
        }
        checkLivingWorm();
        for (int made = 0; made < most; made++) {
            int direction = player.choice();
            if (direction == NONE || !worm.advance(direction)) {
                return made;
            }
        }
        return most;
    }

    public boolean isAlive() {
        return worm.isLiving();
    }

    public int length() {
        return worm.size();
    }

    public int owed() {
        return worm.growth();
    }

    public int bodyAt(int place) throws IndexOutOfBoundsException {
        if (place < 0 || place >= worm.size()) {
            throw new IndexOutOfBoundsException("no such place");
        }
        return worm.cellOf(place);
    }

    public int feeds() {
        return row.size();
    }

    // ---- what is foreseen

    public boolean isInOrder() {
        return player.seesOrder();
    }

    public boolean isSafe(int direction) throws IndexOutOfBoundsException, IllegalStateException {
        checkDirection(direction);
        checkLivingWorm();
        return player.seesSafe(direction);
    }

    public int reach() {
        return foresight.countReached();
    }

    public int livesFor(int most) throws IllegalArgumentException, IllegalStateException {
        if (most < 1 || most > DEEPEST) {
            throw new IllegalArgumentException("most is out of range");
        }
        checkLivingWorm();
        return foresight.longestWalk(most);
    }

    public int fewest() throws IllegalStateException {
        checkLivingWorm();
        return foresight.fewestByDepths();
    }

    public int fewestByBodies() throws IllegalStateException {
        checkLivingWorm();
        return foresight.fewestByLevels();
    }

    // ---- what several calls refuse

    private static void checkCell(int cell) {
        if (cell < 0 || cell >= CELLS) {
            throw new IndexOutOfBoundsException("no such cell");
        }
    }

    private static void checkLink(int link) {
        if (link < 0 || link >= LINKS) {
            throw new IndexOutOfBoundsException("no such link");
        }
    }

    private static void checkDirection(int direction) {
        if (direction < 0 || direction >= DIRECTIONS) {
            throw new IndexOutOfBoundsException("no such direction");
        }
    }

    private void checkCycle() {
        if (!cycle.isThere()) {
            throw new IllegalStateException("there is no cycle");
        }
    }

    private void checkPlaceOfCycle(int place) {
        if (place < 0 || place >= cycle.size()) {
            throw new IndexOutOfBoundsException("no such place");
        }
    }

    private void checkLivingWorm() {
        if (!worm.isLiving()) {
            throw new IllegalStateException("there is no worm, or it is dead");
        }
    }

    // ---- rows and sets, for all classes below

    private static int at(int[] numbers, int index) {
        return index >= 0 && index < numbers.length ? numbers[index] : NONE;
    }

    private static void put(int[] numbers, int index, int number) {
        if (index >= 0 && index < numbers.length) {
            numbers[index] = number;
        }
    }

    // All cells of the board fit into the bits of one long.
    private static long setOf(int cell) {
        return 1L << cell;
    }

    private static boolean isIn(long cells, int cell) {
        return (cells & setOf(cell)) != 0;
    }

    /** The walls, the links, and the tree that grows of them. */
    private static final class Board {
        private final int[] weights = new int[LINKS];
        // For each block one number; blocks have the same one if the tree joins them.
        private final int[] groups = new int[BLOCKS];
        private int walls;
        private int tree;

        static int blockOf(int cell) {
            int rowOfBlock = cell / SIDE / 2;
            int columnOfBlock = cell % SIDE / 2;
            return BLOCKS_IN_A_ROW * rowOfBlock + columnOfBlock;
        }

        static int upperLeftOf(int block) {
            int rowOfBlock = block / BLOCKS_IN_A_ROW;
            int columnOfBlock = block % BLOCKS_IN_A_ROW;
            return SIDE * 2 * rowOfBlock + 2 * columnOfBlock;
        }

        /** The block at the left of a link, or above it. */
        static int firstBlockOf(int link) {
            if (link >= LINKS_BESIDE) {
                return link - LINKS_BESIDE;
            }
            return BLOCKS_IN_A_ROW * (link / 2) + link % 2;
        }

        /** The block at the right of a link, or below it. */
        static int secondBlockOf(int link) {
            return firstBlockOf(link) + (link >= LINKS_BESIDE ? BLOCKS_IN_A_ROW : 1);
        }

        /** The link that leads out of a block, or NONE at the rim. */
        static int linkOutOf(int block, int direction) {
            int rowOfBlock = block / BLOCKS_IN_A_ROW;
            int columnOfBlock = block % BLOCKS_IN_A_ROW;
            switch (direction) {
                case UP:
                    return rowOfBlock > 0 ? LINKS_BESIDE + block - BLOCKS_IN_A_ROW : NONE;
                case RIGHT:
                    return columnOfBlock < BLOCKS_IN_A_ROW - 1 ? 2 * rowOfBlock + columnOfBlock : NONE;
                case DOWN:
                    return rowOfBlock < BLOCKS_IN_A_ROW - 1 ? LINKS_BESIDE + block : NONE;
                default:
                    return columnOfBlock > 0 ? 2 * rowOfBlock + columnOfBlock - 1 : NONE;
            }
        }

        /** The cell that lies in a direction, or NONE at the rim. */
        static int cellBeside(int cell, int direction) {
            int column = cell % SIDE;
            switch (direction) {
                case UP:
                    return cell >= SIDE ? cell - SIDE : NONE;
                case RIGHT:
                    return column < SIDE - 1 ? cell + 1 : NONE;
                case DOWN:
                    return cell < CELLS - SIDE ? cell + SIDE : NONE;
                default:
                    return column > 0 ? cell - 1 : NONE;
            }
        }

        boolean hasWallOn(int block) {
            return (walls & (1 << block)) != 0;
        }

        void putWall(int block, boolean isWall) {
            walls = isWall ? walls | (1 << block) : walls & ~(1 << block);
        }

        int weightOf(int link) {
            return at(weights, link);
        }

        void putWeight(int link, int weight) {
            put(weights, link, weight);
        }

        boolean treeHas(int link) {
            return link != NONE && (tree & (1 << link)) != 0;
        }

        /** The cell to which one can go in a direction, or NONE. */
        int goFrom(int cell, int direction) {
            int to = cellBeside(cell, direction);
            if (to == NONE || hasWallOn(blockOf(cell)) || hasWallOn(blockOf(to))) {
                return NONE;
            }
            if (blockOf(cell) == blockOf(to)) {
                return to;
            }
            return at(weights, linkOutOf(blockOf(cell), direction)) != NONE ? to : NONE;
        }

        void growTree() {
            tree = 0;
            for (int block = 0; block < groups.length; block++) {
                groups[block] = block;
            }
            for (int weight = 0; weight <= HEAVIEST; weight++) {
                for (int link = 0; link < LINKS; link++) {
                    if (weightOf(link) == weight) {
                        joinBy(link);
                    }
                }
            }
        }

        private void joinBy(int link) {
            int first = firstBlockOf(link);
            int second = secondBlockOf(link);
            int kept = at(groups, first);
            int gone = at(groups, second);
            if (hasWallOn(first) || hasWallOn(second) || kept == gone) {
                return;
            }
            tree |= 1 << link;
            for (int block = 0; block < groups.length; block++) {
                if (groups[block] == gone) {
                    groups[block] = kept;
                }
            }
        }

        boolean isJoinedWhole() {
            int found = NONE;
            for (int block = 0; block < groups.length; block++) {
                if (hasWallOn(block)) {
                    continue;
                }
                if (found != NONE && found != groups[block]) {
                    return false;
                }
                found = groups[block];
            }
            return found != NONE;
        }

        int countOpenCells() {
            return CELLS - CELLS_OF_A_BLOCK * Integer.bitCount(walls);
        }

        /** The lowest cell that is no wall, or NONE; a block's lowest one is its upper left one. */
        int lowestOpenCell() {
            for (int block = 0; block < BLOCKS; block++) {
                if (!hasWallOn(block)) {
                    return upperLeftOf(block);
                }
            }
            return NONE;
        }
    }

    /** The cycle round the tree. */
    private static final class Cycle {
        private final Board board;
        private final int[] cells = new int[CELLS];
        private final int[] places = new int[CELLS];
        private final int[] nextOnRing = new int[CELLS];
        // Without a cycle this is 0.
        private int size;

        Cycle(Board board) {
            this.board = board;
        }

        boolean isThere() {
            return size > 0;
        }

        int size() {
            return size;
        }

        int placeWith(int cell) {
            return at(places, cell);
        }

        int cellWith(int place) {
            return at(cells, place);
        }

        /** How far a cell is from another one. */
        int wayBetween(int from, int to) {
            int way = at(places, to) - at(places, from);
            return way < 0 ? way + size : way;
        }

        /** Finds tree and cycle anew; due whenever the board has changed. */
        void layOut() {
            board.growTree();
            size = board.isJoinedWhole() ? board.countOpenCells() : 0;
            for (int cell = 0; cell < places.length; cell++) {
                places[cell] = NONE;
            }
            int cell = board.lowestOpenCell();
            for (int place = 0; place < size; place++) {
                put(cells, place, cell);
                put(places, cell, place);
                cell = nextRoundTree(cell);
            }
        }

        private int nextRoundTree(int cell) {
            // Corners are counted as directions are: from each the tree is followed
            // in the direction of its own number, or else the block in the next one.
            int corner = cornerOf(cell);
            boolean leaves = board.treeHas(Board.linkOutOf(Board.blockOf(cell), corner));
            return Board.cellBeside(cell, leaves ? corner : (corner + 1) % DIRECTIONS);
        }

        private static int cornerOf(int cell) {
            boolean isLower = cell / SIDE % 2 != 0;
            boolean isRight = cell % SIDE % 2 != 0;
            if (isLower) {
                return isRight ? 2 : 3;
            }
            return isRight ? 1 : 0;
        }

        /** The same as cellWith, but without the order that layOut found. */
        int cellByRings(int place) {
            for (int block = 0; block < BLOCKS; block++) {
                if (!board.hasWallOn(block)) {
                    makeRing(Board.upperLeftOf(block));
                }
            }
            for (int link = 0; link < LINKS; link++) {
                if (board.treeHas(link)) {
                    makeOneOfTwo(link);
                }
            }
            int cell = board.lowestOpenCell();
            for (int gone = 0; gone < place; gone++) {
                cell = at(nextOnRing, cell);
            }
            return cell;
        }

        private void makeRing(int upperLeft) {
            int upperRight = upperLeft + 1;
            int lowerLeft = upperLeft + SIDE;
            int lowerRight = lowerLeft + 1;
            put(nextOnRing, upperLeft, upperRight);
            put(nextOnRing, upperRight, lowerRight);
            put(nextOnRing, lowerRight, lowerLeft);
            put(nextOnRing, lowerLeft, upperLeft);
        }

        private void makeOneOfTwo(int link) {
            int first = Board.upperLeftOf(Board.firstBlockOf(link));
            int second = Board.upperLeftOf(Board.secondBlockOf(link));
            boolean isBelow = link >= LINKS_BESIDE;
            int over = isBelow ? first + SIDE + 1 : first + 1;
            int back = isBelow ? second : second + SIDE;
            // Two rings that swap what follows one cell of each become one.
            int followed = at(nextOnRing, over);
            put(nextOnRing, over, at(nextOnRing, back));
            put(nextOnRing, back, followed);
        }
    }

    /** The row of feeds; the first can be put back behind a walk that was only foreseen. */
    private static final class FeedRow {
        // A power of two above MOST_FEEDS, so that a mask keeps each index inside.
        private static final int ROOM = 64;

        private final int[] cells = new int[ROOM];
        private int first;
        private int size;

        int size() {
            return size;
        }

        int firstCell() {
            return size > 0 ? at(cells, first) : NONE;
        }

        private int cellAfter(int ahead) {
            return at(cells, (first + ahead) & (ROOM - 1));
        }

        boolean hasOneIn(int block) {
            for (int ahead = 0; ahead < size; ahead++) {
                if (Board.blockOf(cellAfter(ahead)) == block) {
                    return true;
                }
            }
            return false;
        }

        void add(int cell) {
            put(cells, (first + size) & (ROOM - 1), cell);
            size++;
        }

        void takeFirst() {
            first = (first + 1) & (ROOM - 1);
            size--;
        }

        void putFirstBack() {
            first = (first - 1) & (ROOM - 1);
            size++;
        }
    }

    /** The worm; its last steps can be taken back, as its cells stay in the ring behind its tail. */
    private static final class Worm {
        // A power of two above CELLS and DEEPEST together, so that a mask keeps each index inside.
        private static final int ROOM = 64;
        private static final int GREW = 1;
        private static final int ATE = 2;

        private final Board board;
        private final FeedRow row;
        private final int[] cells = new int[ROOM];
        // What the step to each cell of the ring did, for taking it back.
        private final int[] deeds = new int[ROOM];
        private int head;
        private int size;
        private int growth;
        private long body;
        private boolean isDead;

        Worm(Board board, FeedRow row) {
            this.board = board;
            this.row = row;
        }

        boolean isThere() {
            return size > 0;
        }

        boolean isLiving() {
            return isThere() && !isDead;
        }

        int size() {
            return size;
        }

        int growth() {
            return growth;
        }

        int cellOf(int place) {
            return at(cells, (head + place) & (ROOM - 1));
        }

        boolean isOn(int cell) {
            return isIn(body, cell);
        }

        void lay(int cell, int growthAtFirst) {
            put(cells, head, cell);
            size = 1;
            growth = growthAtFirst;
            body = setOf(cell);
            isDead = false;
        }

        void takeAway() {
            size = 0;
            growth = 0;
        }

        void die() {
            isDead = true;
        }

        /** Makes a step and tells true, or tells false and changes nothing if the worm would die by it. */
        boolean advance(int direction) {
            int to = board.goFrom(cellOf(0), direction);
            boolean grows = growth > 0;
            long staying = grows ? body : body & ~setOf(cellOf(size - 1));
            if (to == NONE || isIn(staying, to)) {
                return false;
            }
            boolean eats = row.firstCell() == to;
            head = (head - 1) & (ROOM - 1);
            put(cells, head, to);
            put(deeds, head, (grows ? GREW : 0) | (eats ? ATE : 0));
            body = staying | setOf(to);
            if (grows) {
                size++;
                growth--;
            }
            if (eats) {
                row.takeFirst();
                growth += GROWTH_OF_A_FEED;
            }
            return true;
        }

        boolean hasJustEaten() {
            return (at(deeds, head) & ATE) != 0;
        }

        /** Takes the last step back; only for steps that the running call itself has made. */
        void takeBack() {
            boolean grew = (at(deeds, head) & GREW) != 0;
            if (hasJustEaten()) {
                row.putFirstBack();
                growth -= GROWTH_OF_A_FEED;
            }
            body &= ~setOf(cellOf(0));
            head = (head + 1) & (ROOM - 1);
            if (grew) {
                size--;
                growth++;
            }
            body |= setOf(cellOf(size - 1));
        }
    }

    /** The one who cuts along the cycle. */
    private static final class Player {
        private final Cycle cycle;
        private final FeedRow row;
        private final Worm worm;

        Player(Cycle cycle, FeedRow row, Worm worm) {
            this.cycle = cycle;
            this.row = row;
            this.worm = worm;
        }

        boolean seesOrder() {
            return worm.isThere() && cycle.isThere() && wayOfBody() < cycle.size();
        }

        private int wayOfBody() {
            int way = 0;
            for (int place = worm.size() - 1; place > 0; place--) {
                way += cycle.wayBetween(worm.cellOf(place), worm.cellOf(place - 1));
            }
            return way;
        }

        boolean seesSafe(int direction) {
            int from = worm.cellOf(0);
            int feed = row.firstCell();
            if (feed == NONE || !seesOrder() || !worm.advance(direction)) {
                return false;
            }
            int farthest = feed == from ? cycle.size() : cycle.wayBetween(from, feed);
            boolean isSafe = seesOrder()
                    && cycle.wayBetween(from, worm.cellOf(0)) <= farthest
                    && cycle.size() - 1 - wayOfBody() >= worm.growth();
            worm.takeBack();
            return isSafe;
        }

        /** The direction of the safe step that goes farthest, or NONE. */
        int choice() {
            int best = NONE;
            int farthest = 0;
            for (int direction = 0; direction < DIRECTIONS; direction++) {
                if (seesSafe(direction)) {
                    int way = cycle.wayBetween(worm.cellOf(0), Board.cellBeside(worm.cellOf(0), direction));
                    if (way > farthest) {
                        best = direction;
                        farthest = way;
                    }
                }
            }
            return best;
        }
    }

    /** The walks that the worm could make. */
    private static final class Foresight {
        private final Board board;
        private final FeedRow row;
        private final Worm worm;
        private final int[] reached = new int[CELLS];
        private final Bodies someBodies = new Bodies();
        private final Bodies otherBodies = new Bodies();

        Foresight(Board board, FeedRow row, Worm worm) {
            this.board = board;
            this.row = row;
            this.worm = worm;
        }

        int countReached() {
            if (!worm.isThere()) {
                return 0;
            }
            put(reached, 0, worm.cellOf(0));
            long seen = setOf(worm.cellOf(0));
            int count = 1;
            for (int next = 0; next < count && next < CELLS; next++) {
                for (int direction = 0; direction < DIRECTIONS; direction++) {
                    int to = board.goFrom(at(reached, next), direction);
                    if (to != NONE && !isIn(seen, to) && !worm.isOn(to)) {
                        put(reached, count, to);
                        seen |= setOf(to);
                        count++;
                    }
                }
            }
            return count - 1;
        }

        int longestWalk(int most) {
            return longestFrom(worm, most);
        }

        private static int longestFrom(Worm worm, int most) {
            int longest = 0;
            for (int direction = 0; direction < DIRECTIONS && longest < most; direction++) {
                if (worm.advance(direction)) {
                    longest = Math.max(longest, 1 + longestFrom(worm, most - 1));
                    worm.takeBack();
                }
            }
            return longest;
        }

        int fewestByDepths() {
            if (row.size() == 0) {
                return NONE;
            }
            for (int depth = 1; depth <= DEEPEST; depth++) {
                if (eatsWithin(worm, depth)) {
                    return depth;
                }
            }
            return NONE;
        }

        private static boolean eatsWithin(Worm worm, int depth) {
            boolean eats = false;
            for (int direction = 0; direction < DIRECTIONS && depth > 0 && !eats; direction++) {
                if (worm.advance(direction)) {
                    eats = worm.hasJustEaten() || eatsWithin(worm, depth - 1);
                    worm.takeBack();
                }
            }
            return eats;
        }

        int fewestByLevels() {
            if (row.size() == 0) {
                return NONE;
            }
            Bodies here = someBodies;
            Bodies behind = otherBodies;
            here.holdFirstAlone();
            for (int steps = 1; steps <= DEEPEST; steps++) {
                if (eatsFromOneOf(here, steps - 1, behind)) {
                    return steps;
                }
                Bodies spare = here;
                here = behind;
                behind = spare;
            }
            return NONE;
        }

        /** Tells whether one more step can eat; if not, the bodies behind one more step are held then. */
        private boolean eatsFromOneOf(Bodies here, int steps, Bodies behind) {
            behind.holdNone();
            boolean eats = false;
            for (int index = 0; index < here.size() && !eats; index++) {
                int way = here.wayTo(index);
                follow(way, steps);
                eats = eatsByOneStep(way, behind);
                for (int made = 0; made < steps; made++) {
                    worm.takeBack();
                }
            }
            return eats;
        }

        private void follow(int way, int steps) {
            for (int left = steps - 1; left >= 0; left--) {
                worm.advance(Bodies.directionIn(way, left));
            }
        }

        private boolean eatsByOneStep(int way, Bodies behind) {
            boolean eats = false;
            for (int direction = 0; direction < DIRECTIONS && !eats; direction++) {
                if (worm.advance(direction)) {
                    eats = worm.hasJustEaten();
                    behind.add(way, direction);
                    worm.takeBack();
                }
            }
            return eats;
        }
    }

    /** All bodies behind as many steps, each told by the directions that lead to it, two bits for each. */
    private static final class Bodies {
        // 4 to the power of DEEPEST - 1: from bodies behind the last step nothing is sought, so they may be left out.
        private static final int ROOM = 1024;

        private final int[] ways = new int[ROOM];
        private int size;

        static int directionIn(int way, int behind) {
            return (way >>> (2 * behind)) & (DIRECTIONS - 1);
        }

        int size() {
            return size;
        }

        int wayTo(int index) {
            return at(ways, index);
        }

        void holdNone() {
            size = 0;
        }

        void holdFirstAlone() {
            put(ways, 0, 0);
            size = 1;
        }

        void add(int way, int direction) {
            if (size < ROOM) {
                put(ways, size, (way << 2) | direction);
                size++;
            }
        }
    }
}
