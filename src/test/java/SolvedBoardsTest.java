/** Made boards, walled and locked in between, solved by what first() tells, against the reference. */
public final class SolvedBoardsTest {
    private static final int[][] BOARDS = {
        {2, 2}, {2, 3}, {3, 2}, {2, 4}, {4, 2}, {2, 5}, {5, 2}, {3, 3}, {3, 4}, {4, 3}, {4, 4}, {3, 5}, {5, 3}};
    private static final int[][] RINGS = {{3, 3}, {3, 4}, {4, 3}};

    private final NetPlumber own = new NetPlumber();
    private final Reference reference = new Reference(5);
    private final String name;

    private SolvedBoardsTest(int width, int height, boolean ring, int number) {
        name = width + "x" + height + (ring ? " ring " : " ") + number + ": ";
        Check.due(name + "make", reference.make(width, height, ring, number),
                () -> own.make(width, height, ring, number));
    }

    public static void main(String[] args) {
        for (int number = 0; number < 65536; number += 1171) {
            for (int[] board : BOARDS) {
                new SolvedBoardsTest(board[0], board[1], false, number).solve(number);
            }
            for (int[] board : RINGS) {
                new SolvedBoardsTest(board[0], board[1], true, number).solve(number);
                new SolvedBoardsTest(board[0], board[1], true, number + 1).solve(number + 1);
            }
        }
        Check.end();
    }

    private void solve(int number) {
        int size = reference.size();
        compareAll();
        // a lock and two walls may leave solutions or none: only the reference tells
        setLock(number % size, true);
        setWall(number / 7 % size, number / 5 % 4, true);
        setWall(number / 3 % size, number / 11 % 4, true);
        compareAll();
        setWall(number / 7 % size, number / 5 % 4, false);
        setLock(number % size, false);
        compareAll();
        setWall(number / 3 % size, number / 11 % 4, false);
        playFirst();
    }

    private void setLock(int cell, boolean locked) {
        reference.setLock(cell, locked);
        own.setLock(cell, locked);
    }

    private void setWall(int cell, int side, boolean wall) {
        if (reference.neighbour(cell, side) >= 0) {
            reference.setWall(cell, side, wall);
            own.setWall(cell, side, wall);
        }
    }

    private void compareAll() {
        for (int cell = 0; cell < reference.size(); cell++) {
            int at = cell;
            Check.due(name + "tile " + at, reference.tile(at), () -> own.tile(at));
            Check.due(name + "lays " + at, reference.lays(at), () -> own.lays(at));
            Check.due(name + "first " + at, Check.answerOf(() -> reference.first(at)), () -> own.first(at));
        }
        Check.due(name + "solutions", reference.solutions(), own::solutions);
        Check.due(name + "solutionsBySweep", reference.solutions(), own::solutionsBySweep);
        Check.due(name + "fewestTurns", Check.answerOf(reference::fewestTurns), own::fewestTurns);
    }

    private void playFirst() {
        int size = reference.size();
        int turns = 0;
        for (int cell = 0; cell < size; cell++) {
            int lay = own.first(cell);
            // turns before the last cell change no lay of the cells behind
            for (int quarter = 0; quarter < lay; quarter++) {
                own.turn(cell);
                turns++;
            }
        }
        int made = turns;
        Check.due(name + "isSolved after " + made, true, own::isSolved);
        Check.due(name + "moves", made, own::moves);
        Check.due(name + "loose", 0, own::loose);
        Check.due(name + "watered", size, own::watered);
        Check.due(name + "fewestTurns at last", 0, own::fewestTurns);
        for (int k = made - 1; k >= 0; k--) {
            Check.due(name + "undo", k, own::undo);
        }
        for (int cell = 0; cell < size; cell++) {
            int at = cell;
            Check.due(name + "tile undone " + at, reference.tile(at), () -> own.tile(at));
        }
    }
}
