/** Promises 8 to 11: turn, undo, redo, moves. */
public final class MovesTest {
    private MovesTest() {
    }

    public static void main(String[] args) {
        promise8TurnOfEachTile();
        promise8TurnArguments();
        promise8TurnForgetsUndone();
        promise9Undo();
        promise10Redo();
        promise9And10LockedOrNot();
        promise11Moves();
        asManyMovesAsCalls();
        Check.end();
    }

    private static void promise8TurnOfEachTile() {
        int[] after = {0, 2, 4, 6, 8, 10, 12, 14, 1, 3, 5, 7, 9, 11, 13, 15};
        NetPlumber x = new NetPlumber();
        for (int sides = 0; sides <= 15; sides++) {
            int given = sides;
            x.setTile(4, given);
            Check.due("turn of " + given, after[given], () -> x.turn(4));
            Check.due("tile after it", after[given], () -> x.tile(4));
            Check.due("moves after it", 1, x::moves);
        }
        Check.due("the next cell", 0, () -> x.tile(5));
    }

    private static void promise8TurnArguments() {
        NetPlumber x = new NetPlumber();
        for (int wrong : new int[] {-1, 9, 16, 41, Integer.MIN_VALUE, Integer.MAX_VALUE}) {
            Check.dueIndex("turn(" + wrong + ")", () -> x.turn(wrong));
        }
        x.setTile(2, 1);
        x.setLock(2, true);
        Check.dueState("turn(2), locked", () -> x.turn(2));
        Check.due("tile(2)", 1, () -> x.tile(2));
        Check.due("moves", 0, x::moves);
    }

    private static void promise8TurnForgetsUndone() {
        NetPlumber x = new NetPlumber();
        x.setTile(0, 1);
        x.setTile(1, 1);
        x.setLock(1, true);
        x.turn(0);
        x.turn(0);
        x.undo();
        x.undo();
        Check.dueState("a turn that throws", () -> x.turn(1));
        Check.due("redo after it", 1, x::redo);
        Check.due("turn(0)", 4, () -> x.turn(0));
        Check.dueState("redo after a turn", x::redo);
        Check.due("moves", 2, x::moves);
        x.undo();
        Check.due("turn of a closed tile", 0, () -> x.turn(5));
        Check.dueState("redo after the turn of a closed tile", x::redo);
    }

    private static void promise9Undo() {
        NetPlumber x = new NetPlumber();
        Check.dueState("undo of none", x::undo);
        x.setTile(0, 1);
        x.setTile(1, 3);
        x.turn(0);
        x.turn(1);
        x.turn(0);
        Check.due("undo", 2, x::undo);
        Check.due("tile(0)", 2, () -> x.tile(0));
        Check.due("tile(1)", 6, () -> x.tile(1));
        Check.due("undo", 1, x::undo);
        Check.due("tile(1)", 3, () -> x.tile(1));
        Check.due("undo", 0, x::undo);
        Check.due("tile(0)", 1, () -> x.tile(0));
        Check.dueState("undo of none left", x::undo);
        Check.due("tile(0) as it was", 1, () -> x.tile(0));
    }

    private static void promise10Redo() {
        NetPlumber x = new NetPlumber();
        Check.dueState("redo of none", x::redo);
        x.setTile(0, 1);
        x.setTile(1, 3);
        x.turn(0);
        x.turn(1);
        Check.dueState("redo of none undone", x::redo);
        x.undo();
        x.undo();
        Check.due("redo", 1, x::redo);
        Check.due("tile(0)", 2, () -> x.tile(0));
        Check.due("tile(1)", 3, () -> x.tile(1));
        Check.due("redo", 2, x::redo);
        Check.due("tile(1)", 6, () -> x.tile(1));
        Check.dueState("redo of none left", x::redo);
        Check.due("undo of it", 1, x::undo);
        Check.due("tile(1) again", 3, () -> x.tile(1));
        x.setWall(0, NetPlumber.RIGHT, true);
        x.setSource(5);
        Check.due("redo after walls and source", 2, x::redo);
    }

    private static void promise9And10LockedOrNot() {
        NetPlumber x = new NetPlumber();
        x.setTile(3, 8);
        x.turn(3);
        x.setLock(3, true);
        Check.due("undo of a locked cell", 0, x::undo);
        Check.due("tile(3)", 8, () -> x.tile(3));
        Check.due("redo of a locked cell", 1, x::redo);
        Check.due("tile(3)", 1, () -> x.tile(3));
        Check.due("still locked", true, () -> x.setLock(3, true));
    }

    private static void promise11Moves() {
        NetPlumber x = new NetPlumber();
        Check.due("moves", 0, x::moves);
        x.turn(0);
        x.turn(0);
        x.turn(8);
        Check.due("moves after three", 3, x::moves);
        x.undo();
        Check.due("moves after an undo", 2, x::moves);
        x.redo();
        Check.due("moves after a redo", 3, x::moves);
        x.begin(3, 3, false);
        Check.due("moves after begin", 0, x::moves);
        x.turn(0);
        x.make(3, 3, false, 1);
        Check.due("moves after make", 0, x::moves);
    }

    private static void asManyMovesAsCalls() {
        NetPlumber x = new NetPlumber();
        for (int k = 0; k < 512; k++) {
            Check.due("turn " + k, 0, () -> x.turn(1));
        }
        NetPlumber y = new NetPlumber();
        y.setTile(0, 1);
        for (int k = 0; k < 255; k++) {
            y.turn(0);
        }
        for (int k = 254; k >= 0; k--) {
            Check.due("undo", k, y::undo);
        }
        Check.due("tile(0)", 1, () -> y.tile(0));
    }
}
