/**
 * All that an object answers, as one text. What can be seen only by changing it (the weights, where the feeds are) is
 * asked last, so that the object is of no use behind it. It takes some 250 calls of the 512 that an object has.
 */
final class Looks {
    private Looks() {
    }

    static String at(Coilworm x) {
        StringBuilder text = new StringBuilder();
        board(x, text);
        worm(x, text);
        if (x.isAlive()) {
            foreseen(x, text);
        }
        takenApart(x, text);
        return text.toString();
    }

    private static void board(Coilworm x, StringBuilder text) {
        for (int cell = 0; cell < 36; cell++) {
            text.append(x.isWall(cell) ? '#' : '.');
        }
        for (int link = 0; link < 12; link++) {
            text.append(x.isInTree(link) ? 't' : '-');
        }
        boolean hasCycle = x.hasCycle();
        text.append(hasCycle);
        for (int cell = 0; cell < 36 && hasCycle; cell++) {
            int place = x.placeOf(cell);
            text.append(' ').append(place);
            if (place != Coilworm.NONE) {
                text.append('/').append(x.cellAt(place)).append('/').append(x.cellAtByRings(place));
            }
        }
    }

    private static void worm(Coilworm x, StringBuilder text) {
        text.append(" worm ").append(x.isAlive()).append(x.length()).append('+').append(x.owed());
        text.append(' ').append(Scenes.body(x));
        text.append(" feeds ").append(x.feeds()).append(x.isInOrder()).append(x.reach());
    }

    private static void foreseen(Coilworm x, StringBuilder text) {
        text.append(' ').append(Scenes.safe(x));
        text.append(' ').append(x.livesFor(6)).append(' ').append(x.fewest()).append(' ').append(x.fewestByBodies());
    }

    private static void takenApart(Coilworm x, StringBuilder text) {
        text.append(" apart ");
        if (x.length() > 0) {
            text.append(x.end());
        }
        for (int link = 0; link < 12; link++) {
            text.append(' ').append(x.setLink(link, 0));
        }
        for (int block = 0; block < 9; block++) {
            try {
                text.append(x.setWall(block, false) ? " wall" : " open");
            } catch (IllegalStateException e) {
                text.append(" fed");
            }
        }
    }
}
