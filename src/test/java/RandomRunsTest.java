import java.util.Random;

/** Long runs of drawn calls: each answer of NetPlumber must be that of the reference. */
public final class RandomRunsTest {
    private static final int RUNS = 160;
    private static final int CALLS = 512;
    private static final int[] ODD = {-1, -2, 16, 17, 64, 65536, Integer.MIN_VALUE, Integer.MAX_VALUE};
    private static final int[][] BOARDS = {
        {2, 2}, {2, 3}, {3, 2}, {2, 4}, {4, 2}, {2, 5}, {5, 2}, {3, 3}, {3, 4}, {4, 3}, {4, 4}, {3, 5}, {5, 3}};

    private final Random random;
    private final NetPlumber own = new NetPlumber();
    private final Reference reference;
    private final String run;

    private RandomRunsTest(int seed) {
        random = new Random(seed);
        reference = new Reference(seed);
        run = "run " + seed;
    }

    public static void main(String[] args) {
        for (int seed = 0; seed < RUNS; seed++) {
            RandomRunsTest test = new RandomRunsTest(seed);
            for (int call = 0; call < CALLS; call++) {
                test.callOnce(call);
            }
        }
        Check.end();
    }

    private int upTo(int most) {
        return random.nextInt(most + 1);
    }

    private boolean rarely() {
        return random.nextInt(40) == 0;
    }

    private int odd() {
        return ODD[random.nextInt(ODD.length)];
    }

    private int cell() {
        return rarely() ? odd() : random.nextInt(reference.size());
    }

    private int side() {
        return rarely() ? (random.nextBoolean() ? odd() : 4) : random.nextInt(4);
    }

    private void same(String what, Check.Call ownCall, Check.Call referenceCall) {
        Check.due(run + ": " + what, Check.answerOf(referenceCall), ownCall);
    }

    private void callOnce(int call) {
        int kind = upTo(99);
        if (call == 0 || kind < 4) {
            startBoard();
        } else if (kind < 30) {
            changeBoard();
        } else if (kind < 60) {
            move();
        } else if (kind < 85) {
            look();
        } else {
            solve();
        }
    }

    private void startBoard() {
        boolean ring = random.nextInt(3) == 0;
        int[] board = BOARDS[random.nextInt(BOARDS.length)];
        int width = rarely() ? odd() : random.nextInt(10) == 0 ? upTo(6) : ring ? 3 + upTo(1) : board[0];
        int height = rarely() ? odd() : random.nextInt(10) == 0 ? upTo(6) : ring ? 3 + upTo(1) : board[1];
        int number = rarely() ? odd() : upTo(65535);
        if (random.nextInt(4) > 0) {
            same("make " + width + " " + height + " " + ring + " " + number,
                    () -> own.make(width, height, ring, number),
                    () -> reference.make(width, height, ring, number));
        } else {
            same("begin " + width + " " + height + " " + ring,
                    () -> own.begin(width, height, ring),
                    () -> reference.begin(width, height, ring));
        }
    }

    private void changeBoard() {
        int cell = cell();
        int side = side();
        boolean set = random.nextInt(3) == 0;
        int kind = upTo(9);
        if (kind < 1) {
            int sides = rarely() ? odd() : upTo(15);
            same("setTile " + cell + " " + sides,
                    () -> own.setTile(cell, sides), () -> reference.setTile(cell, sides));
        } else if (kind < 5) {
            same("setWall " + cell + " " + side + " " + set,
                    () -> own.setWall(cell, side, set), () -> reference.setWall(cell, side, set));
        } else if (kind < 8) {
            same("setLock " + cell + " " + set,
                    () -> own.setLock(cell, set), () -> reference.setLock(cell, set));
        } else {
            same("setSource " + cell, () -> own.setSource(cell), () -> reference.setSource(cell));
        }
    }

    private void move() {
        int cell = cell();
        int kind = upTo(9);
        if (kind < 5) {
            same("turn " + cell, () -> own.turn(cell), () -> reference.turn(cell));
        } else if (kind < 7) {
            same("undo", own::undo, reference::undo);
        } else if (kind < 9) {
            same("redo", own::redo, reference::redo);
        } else {
            same("moves", own::moves, reference::moves);
        }
    }

    private void look() {
        int cell = cell();
        int side = side();
        switch (upTo(7)) {
            case 0 -> same("size", own::size, reference::size);
            case 1 -> same("tile " + cell, () -> own.tile(cell), () -> reference.tile(cell));
            case 2 -> same("neighbour " + cell + " " + side,
                    () -> own.neighbour(cell, side), () -> reference.neighbour(cell, side));
            case 3 -> same("isJoined " + cell + " " + side,
                    () -> own.isJoined(cell, side), () -> reference.isJoined(cell, side));
            case 4 -> same("loose", own::loose, reference::loose);
            case 5 -> same("watered", own::watered, reference::watered);
            case 6 -> same("isWatered " + cell,
                    () -> own.isWatered(cell), () -> reference.isWatered(cell));
            default -> same("isSolved", own::isSolved, reference::isSolved);
        }
    }

    private void solve() {
        int cell = cell();
        switch (upTo(5)) {
            case 0 -> same("solutions", own::solutions, reference::solutions);
            case 1 -> same("solutionsBySweep", own::solutionsBySweep, reference::solutions);
            case 2 -> same("first " + cell, () -> own.first(cell), () -> reference.first(cell));
            case 3 -> same("fewestTurns", own::fewestTurns, reference::fewestTurns);
            default -> same("lays " + cell, () -> own.lays(cell), () -> reference.lays(cell));
        }
    }
}
