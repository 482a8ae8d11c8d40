/** Boards and numbers that several tests begin with. */
final class Boards {
    /** All widths and heights of a board that is no ring board. */
    static final int[][] PLAIN = {
        {2, 2}, {2, 3}, {2, 4}, {2, 5}, {3, 2}, {3, 3}, {3, 4}, {3, 5}, {4, 2}, {4, 3}, {4, 4}, {5, 2}, {5, 3}};
    static final int[][] RINGS = {{3, 3}, {3, 4}, {4, 3}};
    /** Numbers that are no cell, no side and no set of open sides, wherever a test asks. */
    static final int[] FAR = {
        Integer.MIN_VALUE, Integer.MIN_VALUE + 1, -65536, -16, -4, -2, 17, 32, 36, 64, 256, 65536, 1 << 30,
        Integer.MAX_VALUE - 1, Integer.MAX_VALUE};

    /** A call that is told a cell. */
    interface CellCall {
        Object answer(NetPlumber x, int cell);
    }

    private Boards() {
    }

    /** Calls with wrong cells on boards of all sizes: those beside the first and last one, and far ones. */
    static void noSuchCell(String what, CellCall call) {
        for (int[] board : PLAIN) {
            noSuchCellOn(what, board, false, call);
        }
        for (int[] board : RINGS) {
            noSuchCellOn(what, board, true, call);
        }
        // cells that there were on a larger board before
        NetPlumber x = full();
        x.begin(2, 2, false);
        for (int cell = 4; cell < 17; cell++) {
            int wrong = cell;
            Check.dueIndex(what + " of " + wrong + " on a smaller board", () -> call.answer(x, wrong));
        }
    }

    private static void noSuchCellOn(String what, int[] board, boolean ring, CellCall call) {
        NetPlumber x = new NetPlumber();
        int size = x.begin(board[0], board[1], ring);
        String name = what + " on " + board[0] + "x" + board[1] + ": ";
        Check.dueIndex(name + "-1", () -> call.answer(x, -1));
        Check.dueIndex(name + "the size", () -> call.answer(x, size));
        for (int far : FAR) {
            Check.dueIndex(name + far, () -> call.answer(x, far));
        }
    }

    static NetPlumber laid(int width, int height, boolean ring, int... tiles) {
        NetPlumber x = new NetPlumber();
        x.begin(width, height, ring);
        for (int cell = 0; cell < tiles.length; cell++) {
            x.setTile(cell, tiles[cell]);
        }
        return x;
    }

    /** A board of 3 columns and 3 rows with tiles, walls, locks, a source, moves done and one undone. */
    static NetPlumber busy() {
        NetPlumber x = laid(3, 3, false, 1, 3, 1, 3, 15, 3, 1, 3, 1);
        addAllElse(x);
        return x;
    }

    /** The same on a ring board of 4 columns and 3 rows, with a wall round a row too. */
    static NetPlumber busyRing() {
        NetPlumber x = new NetPlumber();
        x.make(4, 3, true, 2026);
        addAllElse(x);
        x.setWall(8, NetPlumber.LEFT, true);
        return x;
    }

    private static void addAllElse(NetPlumber x) {
        x.setWall(0, NetPlumber.DOWN, true);
        x.setWall(4, NetPlumber.RIGHT, true);
        x.setSource(7);
        x.turn(7);
        x.turn(8);
        x.turn(0);
        x.undo();
        x.setLock(8, true);
        x.setLock(2, true);
    }

    /** A board of 4 columns and 4 rows where every cell is turned, walled in and locked. */
    static NetPlumber full() {
        NetPlumber x = new NetPlumber();
        x.make(4, 4, false, 11);
        for (int cell = 0; cell < 16; cell++) {
            x.turn(cell);
            x.setLock(cell, true);
            for (int side = NetPlumber.RIGHT; side <= NetPlumber.DOWN; side++) {
                if (x.neighbour(cell, side) != NetPlumber.NONE) {
                    x.setWall(cell, side, true);
                }
            }
        }
        x.undo();
        x.setSource(15);
        return x;
    }

    /**
     * A cross amid 3 columns and 3 rows, corners beside it, ends at the corners: two solutions, for
     * the four corners all lead one way round or all the other. By lays they are 1 2 2, 1 0 3, 0 0 3
     * and 2 1 3, 0 0 2, 1 3 0.
     */
    static NetPlumber mill() {
        return laid(3, 3, false, 1, 3, 1, 3, 15, 3, 1, 3, 1);
    }

    /**
     * The same below a row of its own, to which the upper corner, a tile of three sides here, is
     * joined: 1 0 3, 1 2 2, 1 0 3, 0 0 3 and 1 0 3, 2 0 3, 0 0 2, 1 3 0.
     */
    static NetPlumber millBelowRow() {
        return laid(3, 4, false, 1, 14, 1, 1, 7, 1, 3, 15, 3, 1, 3, 1);
    }
}
