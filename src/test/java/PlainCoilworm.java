import java.util.ArrayList;
import java.util.List;

/** The document once more, said as slowly as it is read: what ModelTest holds Coilworm against. */
final class PlainCoilworm {
    static final int NONE = -1;

    /** One moment of a worm and the feeds ahead of it; a step makes another one. */
    private static final class Moment {
        final List<Integer> body;
        final int owed;
        final List<Integer> feeds;

        Moment(List<Integer> body, int owed, List<Integer> feeds) {
            this.body = body;
            this.owed = owed;
            this.feeds = feeds;
        }

        int head() {
            return body.get(0);
        }
    }

    private final boolean[] walls = new boolean[9];
    private final int[] weights = new int[12];
    private List<Integer> body = null;
    private boolean dead = false;
    private int owed = 0;
    private List<Integer> feeds = new ArrayList<>();

    // ---- the board

    boolean setWall(int block, boolean isWall) {
        range(0 <= block && block < 9);
        boolean isFed = false;
        for (int feed : feeds) {
            isFed |= block(feed) == block;
        }
        state(body == null && !isFed);
        boolean before = walls[block];
        walls[block] = isWall;
        return before;
    }

    int setLink(int link, int weight) {
        range(0 <= link && link < 12);
        argument(-1 <= weight && weight <= 9);
        state(body == null);
        int before = weights[link];
        weights[link] = weight;
        return before;
    }

    boolean isWall(int cell) {
        range(0 <= cell && cell < 36);
        return walls[block(cell)];
    }

    boolean isInTree(int link) {
        range(0 <= link && link < 12);
        return tree().contains(link);
    }

    boolean hasCycle() {
        List<Integer> open = new ArrayList<>();
        for (int block = 0; block < 9; block++) {
            if (!walls[block]) {
                open.add(block);
            }
        }
        if (open.isEmpty()) {
            return false;
        }
        for (int block : open) {
            if (!joined(tree(), open.get(0), block)) {
                return false;
            }
        }
        return true;
    }

    int placeOf(int cell) {
        range(0 <= cell && cell < 36);
        state(hasCycle());
        return cycle().indexOf(cell);
    }

    int cellAt(int place) {
        state(hasCycle());
        List<Integer> cycle = cycle();
        range(0 <= place && place < cycle.size());
        return cycle.get(place);
    }

    int cellAtByRings(int place) {
        return cellAt(place);
    }

    // ---- the worm

    void begin(int cell, int growth) {
        range(0 <= cell && cell < 36);
        argument(0 <= growth && growth <= 20);
        state(body == null && !walls[block(cell)]);
        body = new ArrayList<>(List.of(cell));
        owed = growth;
        dead = false;
    }

    int end() {
        state(body != null);
        int size = body.size();
        body = null;
        return size;
    }

    int feed(int cell) {
        range(0 <= cell && cell < 36);
        state(!walls[block(cell)] && feeds.size() < 40);
        feeds = new ArrayList<>(feeds);
        feeds.add(cell);
        return feeds.size();
    }

    int step(int direction) {
        range(0 <= direction && direction < 4);
        state(isAlive());
        Moment behind = after(now(), direction);
        if (behind == null) {
            dead = true;
            return 0;
        }
        become(behind);
        return body.size();
    }

    int play(int most) {
        argument(1 <= most && most <= 50);
        state(isAlive());
        int made = 0;
        while (made < most) {
            int best = NONE;
            for (int direction = 0; direction < 4; direction++) {
                if (safe(now(), direction) && (best == NONE || far(now(), direction) > far(now(), best))) {
                    best = direction;
                }
            }
            if (best == NONE) {
                break;
            }
            become(after(now(), best));
            made++;
        }
        return made;
    }

    boolean isAlive() {
        return body != null && !dead;
    }

    int length() {
        return body == null ? 0 : body.size();
    }

    int owed() {
        return body == null ? 0 : owed;
    }

    int bodyAt(int place) {
        range(0 <= place && place < length());
        return body.get(place);
    }

    int feeds() {
        return feeds.size();
    }

    // ---- what is foreseen

    boolean isInOrder() {
        return body != null && ordered(now());
    }

    boolean isSafe(int direction) {
        range(0 <= direction && direction < 4);
        state(isAlive());
        return safe(now(), direction);
    }

    int reach() {
        if (body == null) {
            return 0;
        }
        List<Integer> come = new ArrayList<>(List.of(body.get(0)));
        boolean more = true;
        while (more) {
            more = false;
            for (int from = 0; from < 36; from++) {
                for (int to = 0; to < 36; to++) {
                    if (come.contains(from) && !come.contains(to) && !body.contains(to) && canGo(from, to)) {
                        come.add(to);
                        more = true;
                    }
                }
            }
        }
        return come.size() - 1;
    }

    int livesFor(int most) {
        argument(1 <= most && most <= 6);
        state(isAlive());
        return lives(now(), most);
    }

    int fewest() {
        state(isAlive());
        int found = feeds.isEmpty() ? 7 : meal(now(), 6);
        return found > 6 ? NONE : found;
    }

    int fewestByBodies() {
        return fewest();
    }

    /** Not of the document's face: whether the worm would live behind a step. */
    boolean survives(int direction) {
        return 0 <= direction && direction < 4 && after(now(), direction) != null;
    }

    // ---- terms

    private static void range(boolean holds) {
        if (!holds) {
            throw new IndexOutOfBoundsException();
        }
    }

    private static void argument(boolean holds) {
        if (!holds) {
            throw new IllegalArgumentException();
        }
    }

    private static void state(boolean holds) {
        if (!holds) {
            throw new IllegalStateException();
        }
    }

    private static int block(int cell) {
        int row = cell / 6;
        int column = cell % 6;
        return 3 * (row / 2) + column / 2;
    }

    /** The number of the link that joins two blocks, or NONE. */
    private static int linkOf(int a, int b) {
        for (int r = 0; r < 3; r++) {
            for (int c = 0; c < 2; c++) {
                if (Math.min(a, b) == 3 * r + c && Math.max(a, b) == 3 * r + c + 1) {
                    return 2 * r + c;
                }
            }
        }
        for (int r = 0; r < 2; r++) {
            for (int c = 0; c < 3; c++) {
                if (Math.min(a, b) == 3 * r + c && Math.max(a, b) == 3 * r + 3 + c) {
                    return 6 + 3 * r + c;
                }
            }
        }
        return NONE;
    }

    private boolean canGo(int from, int to) {
        int rows = Math.abs(from / 6 - to / 6);
        int columns = Math.abs(from % 6 - to % 6);
        if (rows + columns != 1 || isWall(from) || isWall(to)) {
            return false;
        }
        return block(from) == block(to) || weights[linkOf(block(from), block(to))] != NONE;
    }

    private static boolean joined(List<Integer> links, int from, int to) {
        List<Integer> come = new ArrayList<>(List.of(from));
        for (int i = 0; i < come.size(); i++) {
            for (int block = 0; block < 9; block++) {
                int link = linkOf(come.get(i), block);
                if (link != NONE && links.contains(link) && !come.contains(block)) {
                    come.add(block);
                }
            }
        }
        return come.contains(to);
    }

    private List<Integer> tree() {
        List<Integer> links = new ArrayList<>();
        for (int key = 0; key < 120; key++) {
            int link = key % 12;
            if (weights[link] != key / 12) {
                continue;
            }
            for (int a = 0; a < 9; a++) {
                for (int b = a + 1; b < 9; b++) {
                    if (linkOf(a, b) == link && !walls[a] && !walls[b] && !joined(links, a, b)) {
                        links.add(link);
                    }
                }
            }
        }
        return links;
    }

    private List<Integer> cycle() {
        List<Integer> cells = new ArrayList<>();
        List<Integer> tree = tree();
        int cell = 0;
        while (isWall(cell)) {
            cell++;
        }
        while (!cells.contains(cell)) {
            cells.add(cell);
            cell = next(tree, cell);
        }
        return cells;
    }

    private static int next(List<Integer> tree, int cell) {
        boolean left = cell % 2 == 0;
        boolean upper = cell / 6 % 2 == 0;
        int block = block(cell);
        if (upper && left) {
            return block >= 3 && tree.contains(linkOf(block, block - 3)) ? cell - 6 : cell + 1;
        }
        if (upper) {
            return block % 3 < 2 && tree.contains(linkOf(block, block + 1)) ? cell + 1 : cell + 6;
        }
        if (!left) {
            return block < 6 && tree.contains(linkOf(block, block + 3)) ? cell + 6 : cell - 1;
        }
        return block % 3 > 0 && tree.contains(linkOf(block, block - 1)) ? cell - 1 : cell - 6;
    }

    private static int beside(int cell, int direction) {
        int row = cell / 6 + (direction == 0 ? -1 : direction == 2 ? 1 : 0);
        int column = cell % 6 + (direction == 3 ? -1 : direction == 1 ? 1 : 0);
        return row < 0 || row > 5 || column < 0 || column > 5 ? NONE : 6 * row + column;
    }

    private Moment now() {
        return new Moment(body, owed, feeds);
    }

    private void become(Moment moment) {
        body = moment.body;
        owed = moment.owed;
        feeds = moment.feeds;
    }

    /** The moment behind a step, or null if the worm dies by it. */
    private Moment after(Moment m, int direction) {
        int to = beside(m.head(), direction);
        List<Integer> cells = new ArrayList<>(m.body);
        if (m.owed == 0) {
            cells.remove(cells.size() - 1);
        }
        if (to == NONE || !canGo(m.head(), to) || cells.contains(to)) {
            return null;
        }
        cells.add(0, to);
        int growth = Math.max(0, m.owed - 1);
        if (m.feeds.isEmpty() || m.feeds.get(0) != to) {
            return new Moment(cells, growth, m.feeds);
        }
        return new Moment(cells, growth + 2, m.feeds.subList(1, m.feeds.size()));
    }

    private static int way(List<Integer> cycle, int from, int to) {
        int steps = 0;
        int place = cycle.indexOf(from);
        while (cycle.get(place) != to) {
            place = (place + 1) % cycle.size();
            steps++;
        }
        return steps;
    }

    private static int wholeWay(List<Integer> cycle, Moment m) {
        int steps = 0;
        for (int i = 1; i < m.body.size(); i++) {
            steps += way(cycle, m.body.get(i), m.body.get(i - 1));
        }
        return steps;
    }

    private boolean ordered(Moment m) {
        return hasCycle() && wholeWay(cycle(), m) < cycle().size();
    }

    private int far(Moment m, int direction) {
        return way(cycle(), m.head(), beside(m.head(), direction));
    }

    private boolean safe(Moment m, int direction) {
        Moment behind = after(m, direction);
        if (m.feeds.isEmpty() || behind == null || !ordered(m) || !ordered(behind)) {
            return false;
        }
        List<Integer> cycle = cycle();
        int toFeed = m.feeds.get(0) == m.head() ? cycle.size() : way(cycle, m.head(), m.feeds.get(0));
        if (far(m, direction) > toFeed) {
            return false;
        }
        List<Integer> free = new ArrayList<>(cycle);
        int tail = behind.body.get(behind.body.size() - 1);
        int place = cycle.indexOf(tail);
        free.remove((Integer) tail);
        while (cycle.get(place) != behind.head()) {
            place = (place + 1) % cycle.size();
            free.remove(cycle.get(place));
        }
        return free.size() >= behind.owed;
    }

    private int lives(Moment m, int most) {
        int best = 0;
        for (int direction = 0; direction < 4 && most > 0; direction++) {
            Moment behind = after(m, direction);
            if (behind != null) {
                best = Math.max(best, 1 + lives(behind, most - 1));
            }
        }
        return best;
    }

    /** The least number of steps to the first feed, or more than are left. */
    private int meal(Moment m, int left) {
        int best = left + 1;
        for (int direction = 0; direction < 4 && left > 0; direction++) {
            Moment behind = after(m, direction);
            if (behind != null) {
                boolean eaten = behind.feeds.size() < m.feeds.size();
                best = Math.min(best, eaten ? 1 : 1 + meal(behind, left - 1));
            }
        }
        return best;
    }
}
