/** All that can be asked of an object without changing it, as one text. */
final class Looks {
    private Looks() {
    }

    static String at(Coilworm x) {
        StringBuilder text = new StringBuilder();
        board(x, text);
        worm(x, text);
        if (x.isAlive()) {
            foreseen(x, text);
        }
        return text.toString();
    }

    private static void board(Coilworm x, StringBuilder text) {
        for (int cell = 0; cell < 36; cell++) {
            text.append(x.isWall(cell) ? '#' : '.');
        }
        for (int link = 0; link < 12; link++) {
            text.append(x.isInTree(link) ? 't' : '-');
        }
        text.append(x.hasCycle());
        for (int cell = 0; cell < 36 && x.hasCycle(); cell++) {
            int place = x.placeOf(cell);
            text.append(' ').append(place);
            if (place != Coilworm.NONE) {
                text.append('/').append(x.cellAt(place)).append('/').append(x.cellAtByRings(place));
            }
        }
    }

    private static void worm(Coilworm x, StringBuilder text) {
        text.append(" worm ").append(x.isAlive()).append(x.length()).append('+').append(x.owed());
        for (int place = 0; place < x.length(); place++) {
            text.append(' ').append(x.bodyAt(place));
        }
        text.append(" feeds ").append(x.feeds()).append(x.isInOrder()).append(x.reach());
    }

    private static void foreseen(Coilworm x, StringBuilder text) {
        for (int direction = 0; direction < 4; direction++) {
            text.append(' ').append(x.isSafe(direction));
        }
        text.append(' ').append(x.livesFor(6)).append(' ').append(x.fewest()).append(' ').append(x.fewestByBodies());
    }
}
