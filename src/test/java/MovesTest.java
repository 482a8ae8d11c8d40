/** Promises 8 to 11: turn, undo, redo, moves. */
public final class MovesTest {
    /** What a quarter turn makes of the tiles 0 to 15. */
    private static final int[] TURNED = {0, 2, 4, 6, 8, 10, 12, 14, 1, 3, 5, 7, 9, 11, 13, 15};

    private MovesTest() {
    }

    public static void main(String[] args) {
        promise8TurnOfEachTile();
        promise8LeftGoesToUp();
        promise8FourTurnsAreNone();
        promise8FirstAndLastCell();
        promise8NoSuchCell();
        promise8Locked();
        promise8LockedThenUnlocked();
        promise8UndoneIsForgotten();
        promise8ClosedTileIsAMove();
        promise8RefusedTurnForgetsNothing();
        promise9UndoOfNone();
        promise9LatestFirst();
        promise9UndoOfTheLastOne();
        promise9TurnedBackRoundUp();
        promise9LockedOrNot();
        promise9AfterBoardsAndTiles();
        promise10RedoOfNone();
        promise10UndoneLatestFirst();
        promise10RedoOfAll();
        promise10RedoThenUndo();
        promise10LockedOrNot();
        promise10NoneAfterTurn();
        promise10AfterBoardsAndTiles();
        promise10OtherCallsForgetNothing();
        promise11Moves();
        promise11RefusedCallsAreNoMoves();
        Check.end();
    }

    /** "A quarter turn brings what is open UP to the RIGHT, RIGHT to DOWN, DOWN to the LEFT". */
    private static void promise8TurnOfEachTile() {
        NetPlumber x = new NetPlumber();
        for (int sides = 0; sides <= 15; sides++) {
            int given = sides;
            x.setTile(4, given);
            Check.due("turn of " + given, TURNED[given], () -> x.turn(4));
            Check.due("tile after it", TURNED[given], () -> x.tile(4));
            Check.due("moves after it", 1, x::moves);
        }
        Check.due("the cell beside", 0, () -> x.tile(5));
    }

    /** "LEFT to UP". */
    private static void promise8LeftGoesToUp() {
        NetPlumber x = Boards.laid(2, 2, false, 8, 12, 14);
        Check.due("turn of LEFT", 1, () -> x.turn(0));
        Check.due("turn of DOWN and LEFT", 9, () -> x.turn(1));
        Check.due("turn of all but UP", 13, () -> x.turn(2));
    }

    private static void promise8FourTurnsAreNone() {
        for (int sides = 0; sides <= 15; sides++) {
            NetPlumber x = Boards.laid(2, 2, false, sides);
            x.turn(0);
            x.turn(0);
            x.turn(0);
            Check.due("the fourth turn", sides, () -> x.turn(0));
            Check.due("they are four moves yet", 4, x::moves);
        }
    }

    private static void promise8FirstAndLastCell() {
        NetPlumber x = Boards.laid(4, 4, false, 1, 0, 0, 0, 0, 0, 0, 0, 0, 0, 0, 0, 0, 0, 0, 8);
        Check.due("turn of the last cell", 1, () -> x.turn(15));
        Check.due("turn of the first cell", 2, () -> x.turn(0));
        Check.due("undo", 1, x::undo);
        Check.due("tile(0)", 1, () -> x.tile(0));
        Check.due("undo", 0, x::undo);
        Check.due("tile(15)", 8, () -> x.tile(15));
    }

    /** "Throws IndexOutOfBoundsException if there is no such cell". */
    private static void promise8NoSuchCell() {
        Boards.noSuchCell("turn", (x, cell) -> x.turn(cell));
    }

    /** "Throws IllegalStateException if it is locked". */
    private static void promise8Locked() {
        NetPlumber x = Boards.laid(3, 3, false, 1, 1, 1);
        x.setLock(2, true);
        Check.dueState("turn of a locked cell", () -> x.turn(2));
        Check.due("tile(2)", 1, () -> x.tile(2));
        Check.due("moves", 0, x::moves);
        Check.due("turn of the cell before", 2, () -> x.turn(1));
        Check.due("turn of the cell behind", 0, () -> x.turn(3));
    }

    private static void promise8LockedThenUnlocked() {
        NetPlumber x = Boards.laid(3, 3, false, 1);
        x.setLock(0, true);
        Check.dueState("turn, locked", () -> x.turn(0));
        x.setLock(0, false);
        Check.due("turn, unlocked", 2, () -> x.turn(0));
    }

    /** "what was undone can not be done again then". */
    private static void promise8UndoneIsForgotten() {
        NetPlumber x = Boards.laid(3, 3, false, 1, 1);
        x.turn(0);
        x.turn(0);
        x.turn(0);
        x.undo();
        x.undo();
        Check.due("turn of another cell", 2, () -> x.turn(1));
        Check.dueState("redo after a turn", x::redo);
        Check.due("moves", 2, x::moves);
        Check.due("undo of the new one", 1, x::undo);
        Check.due("tile(1)", 1, () -> x.tile(1));
        Check.due("redo of the new one", 2, x::redo);
        Check.due("tile(1) again", 2, () -> x.tile(1));
        Check.dueState("redo of no more", x::redo);
        Check.due("tile(0)", 2, () -> x.tile(0));
    }

    private static void promise8ClosedTileIsAMove() {
        NetPlumber x = Boards.laid(3, 3, false, 0, 15, 1);
        x.turn(2);
        x.undo();
        Check.due("turn of a closed tile", 0, () -> x.turn(0));
        Check.dueState("redo after the turn of a closed tile", x::redo);
        Check.due("turn of a tile open all round", 15, () -> x.turn(1));
        Check.due("moves", 2, x::moves);
        Check.due("undo", 1, x::undo);
        Check.due("undo", 0, x::undo);
    }

    private static void promise8RefusedTurnForgetsNothing() {
        NetPlumber x = Boards.laid(3, 3, false, 1);
        x.turn(0);
        x.turn(0);
        x.undo();
        x.undo();
        x.setLock(1, true);
        Check.dueState("turn of a locked cell", () -> x.turn(1));
        Check.dueIndex("turn of no cell", () -> x.turn(9));
        Check.due("redo after them", 1, x::redo);
        Check.due("redo again", 2, x::redo);
        Check.due("tile(0)", 4, () -> x.tile(0));
    }

    /** "Throws IllegalStateException if there is none": none was made. */
    private static void promise9UndoOfNone() {
        Check.dueState("undo on a new object", () -> new NetPlumber().undo());
        NetPlumber x = Boards.laid(3, 3, false, 1);
        Check.dueState("undo before any turn", x::undo);
        Check.due("tile(0) as it was", 1, () -> x.tile(0));
        Check.due("moves as they were", 0, x::moves);
        x.turn(0);
        Check.due("undo of one", 0, x::undo);
        Check.dueState("undo, all are undone", x::undo);
        Check.due("tile(0) as it was", 1, () -> x.tile(0));
        Check.due("redo after the undo refused", 1, x::redo);
    }

    /** "Undoes the latest move that is not undone". */
    private static void promise9LatestFirst() {
        NetPlumber x = Boards.laid(3, 3, false, 1, 3);
        x.turn(0);
        x.turn(1);
        x.turn(0);
        Check.due("undo", 2, x::undo);
        Check.due("tile(0)", 2, () -> x.tile(0));
        Check.due("tile(1)", 6, () -> x.tile(1));
        Check.due("undo", 1, x::undo);
        Check.due("tile(1)", 3, () -> x.tile(1));
        Check.due("tile(0)", 2, () -> x.tile(0));
        x.redo();
        Check.due("undo of what was done again", 1, x::undo);
        Check.due("tile(1)", 3, () -> x.tile(1));
    }

    /** "Returns how many moves are not undone then": 0 at last. */
    private static void promise9UndoOfTheLastOne() {
        NetPlumber x = Boards.laid(3, 3, false, 1);
        x.turn(0);
        Check.due("undo of the only one", 0, x::undo);
        Check.due("tile(0)", 1, () -> x.tile(0));
        Check.due("moves", 0, x::moves);
    }

    /** "the tile is turned back": UP goes to the LEFT. */
    private static void promise9TurnedBackRoundUp() {
        for (int sides = 0; sides <= 15; sides++) {
            NetPlumber x = Boards.laid(2, 2, false, 0, 0, 0, sides);
            int given = sides;
            x.turn(3);
            x.undo();
            Check.due("turned and turned back " + given, given, () -> x.tile(3));
        }
        NetPlumber x = Boards.laid(2, 2, false, 8);
        x.turn(0);
        Check.due("LEFT turned", 1, () -> x.tile(0));
        x.undo();
        Check.due("UP turned back", 8, () -> x.tile(0));
    }

    /** "locked or not". */
    private static void promise9LockedOrNot() {
        NetPlumber x = Boards.laid(3, 3, false, 0, 0, 0, 8);
        x.turn(3);
        x.setLock(3, true);
        Check.due("undo of a locked cell", 0, x::undo);
        Check.due("tile(3)", 8, () -> x.tile(3));
        Check.due("still locked", true, () -> x.setLock(3, true));
    }

    /** begin, make and setTile leave no move that could be undone. */
    private static void promise9AfterBoardsAndTiles() {
        NetPlumber x = new NetPlumber();
        x.turn(0);
        x.begin(3, 3, false);
        Check.dueState("undo after begin", x::undo);
        x.turn(0);
        x.make(3, 3, false, 8);
        Check.dueState("undo after make", x::undo);
        x.turn(0);
        x.setTile(5, 0);
        Check.dueState("undo after setTile", x::undo);
    }

    /** "Throws IllegalStateException if there is none": none is undone. */
    private static void promise10RedoOfNone() {
        Check.dueState("redo on a new object", () -> new NetPlumber().redo());
        NetPlumber x = Boards.laid(3, 3, false, 1);
        Check.dueState("redo before any turn", x::redo);
        x.turn(0);
        Check.dueState("redo, none is undone", x::redo);
        Check.due("tile(0) as it was", 2, () -> x.tile(0));
        Check.due("moves as they were", 1, x::moves);
    }

    /** "Does the move again that was undone latest". */
    private static void promise10UndoneLatestFirst() {
        NetPlumber x = Boards.laid(3, 3, false, 1, 3);
        x.turn(0);
        x.turn(1);
        x.undo();
        x.undo();
        Check.due("redo", 1, x::redo);
        Check.due("tile(0)", 2, () -> x.tile(0));
        Check.due("tile(1)", 3, () -> x.tile(1));
        Check.due("redo", 2, x::redo);
        Check.due("tile(1)", 6, () -> x.tile(1));
        Check.due("tile(0)", 2, () -> x.tile(0));
    }

    /** "Returns how many moves are not undone then": all, and then there is none. */
    private static void promise10RedoOfAll() {
        NetPlumber x = Boards.laid(3, 3, false, 1);
        x.turn(0);
        x.turn(0);
        x.turn(0);
        x.undo();
        x.undo();
        x.undo();
        Check.due("redo", 1, x::redo);
        Check.due("redo", 2, x::redo);
        Check.due("redo", 3, x::redo);
        Check.dueState("redo, all are done again", x::redo);
        Check.due("tile(0)", 8, () -> x.tile(0));
        Check.due("moves", 3, x::moves);
    }

    private static void promise10RedoThenUndo() {
        NetPlumber x = Boards.laid(3, 3, false, 1, 8);
        x.turn(0);
        x.turn(1);
        x.undo();
        x.redo();
        Check.due("undo of what was done again", 1, x::undo);
        Check.due("tile(1)", 8, () -> x.tile(1));
        Check.due("redo once more", 2, x::redo);
        Check.due("tile(1), LEFT to UP", 1, () -> x.tile(1));
    }

    /** "locked or not". */
    private static void promise10LockedOrNot() {
        NetPlumber x = Boards.laid(3, 3, false, 0, 0, 0, 8);
        x.turn(3);
        x.undo();
        x.setLock(3, true);
        Check.due("redo of a locked cell", 1, x::redo);
        Check.due("tile(3)", 1, () -> x.tile(3));
        Check.due("still locked", true, () -> x.setLock(3, true));
    }

    /** "what was undone can not be done again then". */
    private static void promise10NoneAfterTurn() {
        NetPlumber x = Boards.laid(3, 3, false, 1);
        x.turn(0);
        x.undo();
        x.turn(0);
        Check.dueState("redo after the same turn", x::redo);
        Check.due("tile(0)", 2, () -> x.tile(0));
        Check.due("moves", 1, x::moves);
    }

    private static void promise10AfterBoardsAndTiles() {
        NetPlumber x = new NetPlumber();
        x.turn(0);
        x.undo();
        x.begin(3, 3, false);
        Check.dueState("redo after begin", x::redo);
        x.turn(0);
        x.undo();
        x.make(3, 3, false, 8);
        Check.dueState("redo after make", x::redo);
        x.turn(0);
        x.undo();
        x.setTile(5, 0);
        Check.dueState("redo after setTile", x::redo);
    }

    private static void promise10OtherCallsForgetNothing() {
        NetPlumber x = Boards.laid(2, 2, false, 2, 12, 2, 9);
        x.turn(3);
        x.undo();
        x.setWall(0, NetPlumber.DOWN, true);
        x.setLock(1, true);
        x.setSource(3);
        x.solutions();
        x.solutionsBySweep();
        x.lays(0);
        x.first(0);
        x.fewestTurns();
        x.isSolved();
        Check.dueArgument("begin refused", () -> x.begin(1, 1, false));
        Check.dueArgument("make refused", () -> x.make(2, 2, false, -1));
        Check.dueArgument("setTile refused", () -> x.setTile(0, 16));
        Check.dueIndex("setTile of no cell refused", () -> x.setTile(4, 0));
        Check.due("redo after all these", 1, x::redo);
        Check.due("tile(3)", 3, () -> x.tile(3));
    }

    /** "Returns how many moves are not undone." */
    private static void promise11Moves() {
        NetPlumber x = new NetPlumber();
        Check.due("moves on a new object", 0, x::moves);
        x.turn(0);
        x.turn(0);
        x.turn(8);
        Check.due("moves after three", 3, x::moves);
        x.undo();
        Check.due("moves after an undo", 2, x::moves);
        x.undo();
        x.undo();
        Check.due("moves, all undone", 0, x::moves);
        x.redo();
        Check.due("moves after a redo", 1, x::moves);
        x.turn(4);
        Check.due("moves after a turn", 2, x::moves);
        x.begin(3, 3, false);
        Check.due("moves after begin", 0, x::moves);
        x.turn(0);
        x.make(3, 3, false, 1);
        Check.due("moves after make", 0, x::moves);
        x.turn(0);
        x.setTile(0, 0);
        Check.due("moves after setTile", 0, x::moves);
    }

    private static void promise11RefusedCallsAreNoMoves() {
        NetPlumber x = new NetPlumber();
        x.turn(0);
        x.setLock(0, true);
        Check.dueState("turn of a locked cell", () -> x.turn(0));
        Check.dueIndex("turn of no cell", () -> x.turn(-1));
        Check.dueState("redo of none", x::redo);
        Check.due("moves", 1, x::moves);
        x.undo();
        Check.dueState("undo of none", x::undo);
        Check.due("moves, none", 0, x::moves);
    }
}
