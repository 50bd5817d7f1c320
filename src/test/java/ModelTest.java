import java.lang.reflect.InvocationTargetException;
import java.lang.reflect.Method;
import java.util.Arrays;

/** Long runs of calls, made by a counter that goes round, on Coilworm and on PlainCoilworm alike. */
public final class ModelTest {
    private static final Checks T = new Checks("ModelTest");
    private static final int RUNS = 300;
    private static final int CALLS = 512;
    private static final String[] NAMES = {"setWall", "setLink", "isWall", "isInTree", "hasCycle", "placeOf",
        "cellAt", "cellAtByRings", "begin", "end", "feed", "step", "play", "isAlive", "length", "owed", "bodyAt",
        "feeds", "isInOrder", "isSafe", "reach", "livesFor", "fewest", "fewestByBodies"};
    // How often each of them is called, while there is a worm that lives, and while there is none.
    private static final int[] LIVING = {1, 1, 1, 1, 1, 1, 1, 1, 1, 1, 14, 60, 8, 2, 3, 3, 8, 2, 6, 10, 4, 5, 4, 4};
    private static final int[] OTHERS = {6, 8, 2, 6, 3, 5, 6, 6, 14, 12, 6, 1, 1, 2, 1, 1, 2, 1, 1, 1, 1, 1, 1, 1};

    private static long seed;

    public static void main(String[] args) throws ReflectiveOperationException {
        for (int run = 1; run <= RUNS; run++) {
            seed = run;
            run(run);
        }
        T.close();
    }

    private static int next(int below) {
        seed = seed * 6364136223846793005L + 1442695040888963407L;
        return (int) ((seed >>> 33) % below);
    }

    private static void run(int run) throws ReflectiveOperationException {
        Coilworm x = new Coilworm();
        PlainCoilworm y = new PlainCoilworm();
        // Few shut links and walls in some runs, many in others; and worms that owe little or much.
        int shutOf = 1 + next(12);
        int wallsOf = 2 + next(12);
        int owing = 1 + next(21);
        int walled = run % 3 == 0 ? makeSmall(x, y) : 0;
        for (int count = walled; count < CALLS; count++) {
            int which = pick(y.isAlive() ? LIVING : OTHERS);
            Object[] arguments = arguments(NAMES[which], y, shutOf, wallsOf, owing);
            String call = "run " + run + ", call " + count + ": " + NAMES[which] + Arrays.toString(arguments);
            T.due(call, answer(x, NAMES[which], arguments), answer(y, NAMES[which], arguments));
        }
    }

    /** One, two or three blocks are no walls, so that worms fill the board; tells how many calls that took. */
    private static int makeSmall(Coilworm x, PlainCoilworm y) {
        int blocks = 1 + next(3);
        for (int block = 0; block < 9; block++) {
            boolean isOpen = block == 4 || block == 5 && blocks > 1 || block == 2 && blocks > 2;
            x.setWall(block, !isOpen);
            y.setWall(block, !isOpen);
        }
        return 9;
    }

    private static int pick(int[] shares) {
        int left = next(Arrays.stream(shares).sum());
        int which = 0;
        while (left >= shares[which]) {
            left -= shares[which];
            which++;
        }
        return which;
    }

    private static int within(int low, int high) {
        if (next(60) == 0) {
            int[] outside = {low - 1, high + 1, Scenes.LOWEST, Scenes.HIGHEST};
            return outside[next(4)];
        }
        return low + next(high - low + 1);
    }

    private static Object[] arguments(String name, PlainCoilworm y, int shutOf, int wallsOf, int owing) {
        switch (name) {
            case "setWall":
                return new Object[] {within(0, 8), next(wallsOf) == 0};
            case "setLink":
                return new Object[] {within(0, 11), next(shutOf) == 0 ? -1 : within(0, next(2) == 0 ? 2 : 9)};
            case "begin":
                return new Object[] {within(0, 35), within(0, Math.min(owing - 1, 20))};
            case "isInTree":
                return new Object[] {within(0, 11)};
            case "step":
                return new Object[] {direction(y)};
            case "isSafe":
                return new Object[] {within(0, 3)};
            case "play":
                return new Object[] {next(3) == 0 ? within(1, 50) : within(1, 3)};
            case "livesFor":
                return new Object[] {within(1, 6)};
            case "bodyAt":
                return new Object[] {within(0, Math.max(1, y.length()) - 1)};
            case "feed":
                return new Object[] {y.isAlive() && next(2) == 0 ? y.bodyAt(0) + next(3) - 1 : within(0, 35)};
            default:
                return takesCell(name) ? new Object[] {within(0, 35)} : new Object[0];
        }
    }

    private static boolean takesCell(String name) {
        return name.equals("isWall") || name.equals("placeOf") || name.startsWith("cellAt");
    }

    /** Mostly a direction by which the worm does not die, so that it grows long. */
    private static int direction(PlainCoilworm y) {
        int direction = within(0, 3);
        for (int tries = 0; tries < 12 && y.isAlive() && next(12) != 0; tries++) {
            if (y.survives(direction)) {
                return direction;
            }
            direction = next(4);
        }
        return direction;
    }

    private static String answer(Object game, String name, Object[] arguments) throws ReflectiveOperationException {
        Class<?>[] types = new Class<?>[arguments.length];
        for (int i = 0; i < types.length; i++) {
            types[i] = arguments[i] instanceof Boolean ? boolean.class : int.class;
        }
        Method method = game.getClass().getDeclaredMethod(name, types);
        try {
            return String.valueOf(method.invoke(game, arguments));
        } catch (InvocationTargetException e) {
            return "throws." + e.getCause().getClass().getSimpleName();
        }
    }
}
