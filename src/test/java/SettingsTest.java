/** Promises 4 to 7: setTile, setWall, setLock, setSource. */
public final class SettingsTest {
    private static final int[] WRONG_SIDES = {-1, 4, 5, 8, Integer.MIN_VALUE, Integer.MAX_VALUE};

    private SettingsTest() {
    }

    public static void main(String[] args) {
        promise4LeastAndMostSides();
        promise4ReturnsTileBefore();
        promise4FirstAndLastCell();
        promise4NoSuchCell();
        promise4SidesOutOfRange();
        promise4ForgetsAllMoves();
        promise4ForgetsUndoneMoves();
        promise4SameTileForgetsToo();
        promise4ForgetsMovesOfOtherCells();
        promise4LocksWallsAndSourceStay();
        promise5SetsAndTakesAway();
        promise5SetTwiceAndTakenTwice();
        promise5FromBothCells();
        promise5EachSide();
        promise5NoNeighbourAtBorder();
        promise5RoundTheRing();
        promise5NoSuchCell();
        promise5NoSuchSide();
        promise5NeighbourStays();
        promise5AllWalls();
        promise5MovesStay();
        promise6LocksAndUnlocks();
        promise6FirstAndLastCell();
        promise6NoSuchCell();
        promise6AllLocked();
        promise6MovesStay();
        promise7ReturnsSourceBefore();
        promise7SameSourceAgain();
        promise7FirstAndLastCell();
        promise7NoSuchCell();
        promise7MovesStay();
        Check.end();
    }

    /** "sides: 0 to 15". */
    private static void promise4LeastAndMostSides() {
        NetPlumber x = new NetPlumber();
        Check.due("setTile(4, 15)", 0, () -> x.setTile(4, 15));
        Check.due("all open", 15, () -> x.tile(4));
        Check.due("setTile(4, 0)", 15, () -> x.setTile(4, 0));
        Check.due("all closed", 0, () -> x.tile(4));
    }

    /** "Returns the open sides of the tile that was there." */
    private static void promise4ReturnsTileBefore() {
        NetPlumber x = new NetPlumber();
        for (int sides = 0; sides <= 15; sides++) {
            int now = sides;
            Check.due("setTile(8, " + now + ")", now == 0 ? 0 : now - 1, () -> x.setTile(8, now));
            Check.due("tile(8)", now, () -> x.tile(8));
        }
        Check.due("the cell beside", 0, () -> x.tile(7));
        x.turn(8);
        x.setTile(7, 1);
        x.turn(7);
        Check.due("setTile of a turned tile", 2, () -> x.setTile(7, 1));
    }

    private static void promise4FirstAndLastCell() {
        NetPlumber x = Boards.laid(4, 4, false);
        Check.due("setTile of the first cell", 0, () -> x.setTile(0, 6));
        Check.due("setTile of the last cell", 0, () -> x.setTile(15, 9));
        Check.due("tile(0)", 6, () -> x.tile(0));
        Check.due("tile(15)", 9, () -> x.tile(15));
        Check.due("tile(14)", 0, () -> x.tile(14));
    }

    /** "Throws IndexOutOfBoundsException if there is no such cell". */
    private static void promise4NoSuchCell() {
        Boards.noSuchCell("setTile", (x, cell) -> x.setTile(cell, 1));
    }

    /** "Throws IllegalArgumentException if sides is out of range". */
    private static void promise4SidesOutOfRange() {
        NetPlumber x = Boards.laid(3, 3, false, 7);
        for (int wrong : new int[] {-1, 16, 17, -16, 31, 4096, Integer.MIN_VALUE, Integer.MAX_VALUE}) {
            Check.dueArgument("setTile(0, " + wrong + ")", () -> x.setTile(0, wrong));
            Check.dueArgument("setTile(8, " + wrong + ")", () -> x.setTile(8, wrong));
        }
        Check.due("tile(0) as it was", 7, () -> x.tile(0));
        Check.due("tile(8) as it was", 0, () -> x.tile(8));
    }

    /** "all moves are forgotten, none was made then". */
    private static void promise4ForgetsAllMoves() {
        NetPlumber x = Boards.laid(3, 3, false, 1, 1);
        x.turn(0);
        x.turn(1);
        Check.due("moves", 2, x::moves);
        x.setTile(5, 3);
        Check.due("moves, all forgotten", 0, x::moves);
        Check.dueState("undo, all forgotten", x::undo);
        Check.due("tile(0) stays turned", 2, () -> x.tile(0));
        x.turn(5);
        Check.due("undo of what is turned then", 0, x::undo);
        Check.due("tile(5) undone", 3, () -> x.tile(5));
        Check.dueState("undo of no more", x::undo);
    }

    private static void promise4ForgetsUndoneMoves() {
        NetPlumber x = Boards.laid(3, 3, false, 1);
        x.turn(0);
        x.turn(0);
        x.undo();
        x.undo();
        x.setTile(5, 3);
        Check.dueState("redo, all forgotten", x::redo);
        Check.due("tile(0) stays undone", 1, () -> x.tile(0));
    }

    private static void promise4SameTileForgetsToo() {
        NetPlumber x = Boards.laid(3, 3, false, 1);
        x.turn(0);
        x.turn(1);
        x.undo();
        Check.due("setTile with what is there", 2, () -> x.setTile(0, 2));
        Check.due("moves", 0, x::moves);
        Check.dueState("undo", x::undo);
        Check.dueState("redo", x::redo);
    }

    private static void promise4ForgetsMovesOfOtherCells() {
        NetPlumber x = Boards.laid(2, 2, false, 1, 1, 1, 1);
        x.turn(3);
        x.setTile(0, 4);
        Check.dueState("undo of another cell's move", x::undo);
        Check.due("tile(3)", 2, () -> x.tile(3));
    }

    /** A tile is laid on a locked cell too; no call but setLock, setWall and setSource change those. */
    private static void promise4LocksWallsAndSourceStay() {
        NetPlumber x = Boards.laid(3, 3, false);
        x.setLock(8, true);
        x.setWall(8, NetPlumber.UP, true);
        x.setSource(8);
        Check.due("setTile of a locked cell", 0, () -> x.setTile(8, 1));
        Check.due("its tile", 1, () -> x.tile(8));
        Check.due("still locked", true, () -> x.setLock(8, true));
        Check.due("wall still there", true, () -> x.setWall(8, NetPlumber.UP, true));
        Check.due("still the source", 8, () -> x.setSource(8));
    }

    /** "Sets a wall, or takes it away." */
    private static void promise5SetsAndTakesAway() {
        NetPlumber x = Boards.laid(2, 2, false, 2, 8);
        Check.due("joined", true, () -> x.isJoined(0, NetPlumber.RIGHT));
        Check.due("setWall", false, () -> x.setWall(0, NetPlumber.RIGHT, true));
        Check.due("joined over a wall", false, () -> x.isJoined(0, NetPlumber.RIGHT));
        Check.due("joined over a wall from the other", false, () -> x.isJoined(1, NetPlumber.LEFT));
        Check.due("setWall away", true, () -> x.setWall(0, NetPlumber.RIGHT, false));
        Check.due("joined again", true, () -> x.isJoined(0, NetPlumber.RIGHT));
        Check.due("joined again from the other", true, () -> x.isJoined(1, NetPlumber.LEFT));
    }

    /** "Returns whether there was one." */
    private static void promise5SetTwiceAndTakenTwice() {
        NetPlumber x = new NetPlumber();
        Check.due("take where none is", false, () -> x.setWall(4, NetPlumber.DOWN, false));
        Check.due("set", false, () -> x.setWall(4, NetPlumber.DOWN, true));
        Check.due("set again", true, () -> x.setWall(4, NetPlumber.DOWN, true));
        Check.due("take", true, () -> x.setWall(4, NetPlumber.DOWN, false));
        Check.due("take again", false, () -> x.setWall(4, NetPlumber.DOWN, false));
    }

    /** "whether there is to be a wall between the cell and its neighbour": it is the same from both. */
    private static void promise5FromBothCells() {
        NetPlumber x = new NetPlumber();
        Check.due("set to the right", false, () -> x.setWall(3, NetPlumber.RIGHT, true));
        Check.due("it is to the left of the other", true, () -> x.setWall(4, NetPlumber.LEFT, true));
        Check.due("take it from the other", true, () -> x.setWall(4, NetPlumber.LEFT, false));
        Check.due("it is gone from the first", false, () -> x.setWall(3, NetPlumber.RIGHT, false));
        Check.due("set upwards", false, () -> x.setWall(7, NetPlumber.UP, true));
        Check.due("it is below the other", true, () -> x.setWall(4, NetPlumber.DOWN, false));
        Check.due("it is gone from below", false, () -> x.setWall(7, NetPlumber.UP, false));
    }

    /** "side: UP, RIGHT, DOWN or LEFT": one wall is not another one. */
    private static void promise5EachSide() {
        for (int side = 0; side < 4; side++) {
            NetPlumber x = new NetPlumber();
            int set = side;
            x.setWall(4, set, true);
            for (int other = 0; other < 4; other++) {
                int at = other;
                Check.due("wall at " + set + ", asked at " + at, at == set, () -> x.setWall(4, at, false));
            }
        }
    }

    /** "Throws IllegalStateException if there is no neighbour there". */
    private static void promise5NoNeighbourAtBorder() {
        for (int[] board : Boards.PLAIN) {
            int width = board[0];
            int cells = width * board[1];
            NetPlumber x = Boards.laid(width, board[1], false);
            for (int cell = 0; cell < cells; cell++) {
                int at = cell;
                boolean wall = cell % 2 == 0;
                if (at < width) {
                    Check.dueState("setWall above the board", () -> x.setWall(at, NetPlumber.UP, wall));
                }
                if (at % width == width - 1) {
                    Check.dueState("setWall right of the board", () -> x.setWall(at, NetPlumber.RIGHT, wall));
                }
                if (at >= cells - width) {
                    Check.dueState("setWall below the board", () -> x.setWall(at, NetPlumber.DOWN, wall));
                }
                if (at % width == 0) {
                    Check.dueState("setWall left of the board", () -> x.setWall(at, NetPlumber.LEFT, wall));
                }
            }
        }
    }

    /** A ring board has a neighbour at each side, so that no call is refused. */
    private static void promise5RoundTheRing() {
        for (int[] board : Boards.RINGS) {
            int width = board[0];
            int cells = width * board[1];
            NetPlumber x = Boards.laid(width, board[1], true);
            Check.due("set round the row", false, () -> x.setWall(0, NetPlumber.LEFT, true));
            Check.due("it is right of the last", true, () -> x.setWall(width - 1, NetPlumber.RIGHT, true));
            Check.due("set round the column", false, () -> x.setWall(cells - 1, NetPlumber.DOWN, true));
            Check.due("it is above the first", true, () -> x.setWall(width - 1, NetPlumber.UP, false));
            Check.due("and gone", false, () -> x.setWall(cells - 1, NetPlumber.DOWN, false));
            for (int cell = 0; cell < cells; cell++) {
                int at = cell;
                for (int side = 0; side < 4; side++) {
                    int to = side;
                    boolean due = at == 0 && to == NetPlumber.LEFT || at == width - 1 && to == NetPlumber.RIGHT;
                    Check.due("the only wall " + at + " " + to, due, () -> x.setWall(at, to, due));
                }
            }
        }
    }

    /** "Throws IndexOutOfBoundsException if there is no such cell or side": the cell. */
    private static void promise5NoSuchCell() {
        Boards.noSuchCell("setWall", (x, cell) -> x.setWall(cell, NetPlumber.UP, true));
        Boards.noSuchCell("setWall with no such side", (x, cell) -> x.setWall(cell, 4, false));
    }

    /** "Throws IndexOutOfBoundsException if there is no such cell or side": the side. */
    private static void promise5NoSuchSide() {
        NetPlumber x = new NetPlumber();
        NetPlumber ring = Boards.laid(3, 3, true);
        for (int wrong : WRONG_SIDES) {
            Check.dueIndex("setWall(0, " + wrong + ")", () -> x.setWall(0, wrong, true));
            Check.dueIndex("setWall(4, " + wrong + ")", () -> x.setWall(4, wrong, false));
            Check.dueIndex("setWall(8, " + wrong + ")", () -> x.setWall(8, wrong, true));
            Check.dueIndex("ring: setWall(4, " + wrong + ")", () -> ring.setWall(4, wrong, true));
        }
        Check.due("no wall is there", false, () -> x.setWall(3, NetPlumber.UP, false));
        Check.due("no wall is there either", false, () -> x.setWall(5, NetPlumber.UP, false));
    }

    /** "The neighbour of a cell at a side is the next cell in that direction", with a wall too. */
    private static void promise5NeighbourStays() {
        NetPlumber x = new NetPlumber();
        x.setWall(0, NetPlumber.RIGHT, true);
        Check.due("neighbour behind a wall", 1, () -> x.neighbour(0, NetPlumber.RIGHT));
        Check.due("neighbour from the other side", 0, () -> x.neighbour(1, NetPlumber.LEFT));
    }

    private static void promise5AllWalls() {
        NetPlumber x = Boards.full();
        for (int cell = 0; cell < 16; cell++) {
            int at = cell;
            Check.due("isWatered(" + at + ") behind walls", at == 15, () -> x.isWatered(at));
            for (int side = 0; side < 4; side++) {
                int to = side;
                Check.due("joined over a wall", false, () -> x.isJoined(at, to));
                if (x.neighbour(at, to) != NetPlumber.NONE) {
                    Check.due("the wall is there", true, () -> x.setWall(at, to, true));
                }
            }
        }
    }

    private static void promise5MovesStay() {
        NetPlumber x = Boards.laid(2, 2, false, 1);
        x.turn(0);
        x.turn(0);
        x.undo();
        x.setWall(0, NetPlumber.RIGHT, true);
        Check.due("moves after setWall", 1, x::moves);
        Check.due("redo after setWall", 2, x::redo);
    }

    /** "Locks a cell, or unlocks it. Returns whether it was locked." */
    private static void promise6LocksAndUnlocks() {
        NetPlumber x = new NetPlumber();
        Check.due("unlock what is not locked", false, () -> x.setLock(4, false));
        Check.due("lock", false, () -> x.setLock(4, true));
        Check.due("lock again", true, () -> x.setLock(4, true));
        Check.dueState("turn of it", () -> x.turn(4));
        Check.due("unlock", true, () -> x.setLock(4, false));
        Check.due("turn of it, unlocked", 0, () -> x.turn(4));
        Check.due("unlock again", false, () -> x.setLock(4, false));
    }

    private static void promise6FirstAndLastCell() {
        NetPlumber x = Boards.laid(4, 4, false);
        Check.due("lock the first cell", false, () -> x.setLock(0, true));
        Check.due("lock the last cell", false, () -> x.setLock(15, true));
        Check.dueState("turn of the first cell", () -> x.turn(0));
        Check.dueState("turn of the last cell", () -> x.turn(15));
        for (int cell = 0; cell < 16; cell++) {
            int at = cell;
            Check.due("locked " + at, at == 0 || at == 15, () -> x.setLock(at, false));
        }
    }

    /** "Throws IndexOutOfBoundsException if there is no such cell"; by 32 greater is no such cell. */
    private static void promise6NoSuchCell() {
        Boards.noSuchCell("setLock", (x, cell) -> x.setLock(cell, true));
        Boards.noSuchCell("unlock", (x, cell) -> x.setLock(cell, false));
        NetPlumber x = new NetPlumber();
        Check.dueIndex("setLock(36)", () -> x.setLock(36, true));
        Check.dueIndex("setLock(-28)", () -> x.setLock(-28, true));
        Check.due("no cell was locked", false, () -> x.setLock(4, false));
    }

    private static void promise6AllLocked() {
        NetPlumber x = Boards.laid(4, 4, false);
        for (int cell = 0; cell < 16; cell++) {
            x.setLock(cell, true);
        }
        for (int cell = 0; cell < 16; cell++) {
            int at = cell;
            Check.dueState("all locked: turn " + at, () -> x.turn(at));
        }
        x.setLock(7, false);
        Check.due("the only one unlocked", 0, () -> x.turn(7));
        Check.dueState("the one before", () -> x.turn(6));
        Check.dueState("the one behind", () -> x.turn(8));
    }

    private static void promise6MovesStay() {
        NetPlumber x = Boards.laid(2, 2, false, 1);
        x.turn(0);
        x.turn(0);
        x.undo();
        x.setLock(0, true);
        Check.due("moves after setLock", 1, x::moves);
        Check.due("redo after setLock", 2, x::redo);
    }

    /** "Makes a cell the source. Returns the source before." */
    private static void promise7ReturnsSourceBefore() {
        NetPlumber x = new NetPlumber();
        Check.due("setSource(8)", 0, () -> x.setSource(8));
        Check.due("setSource(3)", 8, () -> x.setSource(3));
        Check.due("isWatered(3)", true, () -> x.isWatered(3));
        Check.due("isWatered(8)", false, () -> x.isWatered(8));
        Check.due("isWatered(0)", false, () -> x.isWatered(0));
        Check.due("watered", 1, x::watered);
    }

    private static void promise7SameSourceAgain() {
        NetPlumber x = new NetPlumber();
        Check.due("the first cell again", 0, () -> x.setSource(0));
        Check.due("another one", 0, () -> x.setSource(5));
        Check.due("the same again", 5, () -> x.setSource(5));
        Check.due("isWatered(5)", true, () -> x.isWatered(5));
    }

    private static void promise7FirstAndLastCell() {
        NetPlumber x = Boards.laid(4, 4, false);
        Check.due("the last cell", 0, () -> x.setSource(15));
        Check.due("isWatered(15)", true, () -> x.isWatered(15));
        Check.due("back to the first cell", 15, () -> x.setSource(0));
        Check.due("isWatered(0)", true, () -> x.isWatered(0));
    }

    /** "Throws IndexOutOfBoundsException if there is no such cell". */
    private static void promise7NoSuchCell() {
        Boards.noSuchCell("setSource", (x, cell) -> x.setSource(cell));
        NetPlumber x = new NetPlumber();
        x.setSource(2);
        Check.dueIndex("setSource(9)", () -> x.setSource(9));
        Check.due("source as it was", 2, () -> x.setSource(0));
    }

    private static void promise7MovesStay() {
        NetPlumber x = Boards.laid(2, 2, false, 1);
        x.turn(0);
        x.turn(0);
        x.undo();
        x.setSource(3);
        Check.due("moves after setSource", 1, x::moves);
        Check.due("redo after setSource", 2, x::redo);
    }
}
