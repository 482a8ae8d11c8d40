/** "A call that throws an exception changes nothing", and which exception is thrown if several apply. */
public final class RefusedCallsTest {
    private static final String INDEX = "IndexOutOfBoundsException";
    private static final String ARGUMENT = "IllegalArgumentException";
    private static final String STATE = "IllegalStateException";

    private interface Call {
        Object answer(NetPlumber x);
    }

    private RefusedCallsTest() {
    }

    public static void main(String[] args) {
        promise2Begin();
        promise3Make();
        promise4SetTile();
        promise5SetWall();
        promise6SetLock();
        promise7SetSource();
        promise8Turn();
        promise9Undo();
        promise10Redo();
        promises13To18Looks();
        promise20Lays();
        promise23First();
        promise24FewestTurns();
        Check.end();
    }

    /** The call is refused on a board, and on a ring board, and all stays as it was. */
    private static void refused(String what, String exception, Call call) {
        NetPlumber x = Boards.busy();
        Check.due(what, "throws." + exception, () -> call.answer(x));
        Check.due(what + " changes nothing", Picture.of(Boards.busy()), () -> Picture.of(x));
        NetPlumber y = Boards.busyRing();
        Check.due("ring: " + what, "throws." + exception, () -> call.answer(y));
        Check.due("ring: " + what + " changes nothing", Picture.of(Boards.busyRing()), () -> Picture.of(y));
    }

    private static void promise2Begin() {
        refused("begin, width too small", ARGUMENT, x -> x.begin(1, 3, false));
        refused("begin, width too large", ARGUMENT, x -> x.begin(6, 2, false));
        refused("begin, height too small", ARGUMENT, x -> x.begin(3, 1, false));
        refused("begin, height too large", ARGUMENT, x -> x.begin(2, 6, false));
        refused("begin, too many cells", ARGUMENT, x -> x.begin(4, 5, false));
        refused("begin, ring of width 2", ARGUMENT, x -> x.begin(2, 4, true));
        refused("begin, ring of height 2", ARGUMENT, x -> x.begin(4, 2, true));
        refused("begin, ring of too many cells", ARGUMENT, x -> x.begin(4, 4, true));
        refused("begin, ring of width 5", ARGUMENT, x -> x.begin(5, 3, true));
    }

    private static void promise3Make() {
        refused("make, width too small", ARGUMENT, x -> x.make(1, 3, false, 1));
        refused("make, width too large", ARGUMENT, x -> x.make(6, 2, false, 1));
        refused("make, height too small", ARGUMENT, x -> x.make(3, 1, false, 1));
        refused("make, height too large", ARGUMENT, x -> x.make(2, 6, false, 1));
        refused("make, too many cells", ARGUMENT, x -> x.make(5, 4, false, 1));
        refused("make, ring of width 2", ARGUMENT, x -> x.make(2, 4, true, 1));
        refused("make, ring of height 2", ARGUMENT, x -> x.make(4, 2, true, 1));
        refused("make, ring of too many cells", ARGUMENT, x -> x.make(4, 4, true, 1));
        refused("make, number too small", ARGUMENT, x -> x.make(4, 4, false, -1));
        refused("make, number too large", ARGUMENT, x -> x.make(2, 2, false, 65536));
        refused("make, ring and number too large", ARGUMENT, x -> x.make(3, 3, true, 65536));
        refused("make, all wrong", ARGUMENT, x -> x.make(0, 9, true, -1));
    }

    private static void promise4SetTile() {
        refused("setTile, no such cell", INDEX, x -> x.setTile(-1, 3));
        refused("setTile, cell of the size", INDEX, x -> x.setTile(x.size(), 3));
        refused("setTile, sides too small", ARGUMENT, x -> x.setTile(0, -1));
        refused("setTile, sides too large", ARGUMENT, x -> x.setTile(0, 16));
        refused("setTile, the last cell, sides too large", ARGUMENT, x -> x.setTile(8, 16));
        // both apply: the cell is named first
        refused("setTile, no such cell and sides too small", INDEX, x -> x.setTile(-1, -1));
        refused("setTile, no such cell and sides too large", INDEX, x -> x.setTile(x.size(), 16));
    }

    private static void promise5SetWall() {
        refused("setWall, no such cell", INDEX, x -> x.setWall(-1, NetPlumber.RIGHT, true));
        refused("setWall, cell of the size", INDEX, x -> x.setWall(x.size(), NetPlumber.UP, true));
        refused("setWall, side too small", INDEX, x -> x.setWall(4, -1, true));
        refused("setWall, side too large", INDEX, x -> x.setWall(3, 4, true));
        refused("setWall away, side too large", INDEX, x -> x.setWall(4, 5, false));
        refused("setWall, both wrong", INDEX, x -> x.setWall(-1, 4, true));
        // beside a cell at the border that is not, there is no neighbour either
        refused("setWall, no such cell above the board", INDEX, x -> x.setWall(-1, NetPlumber.UP, true));
        refused("setWall, no such side at a corner", INDEX, x -> x.setWall(0, -1, true));
        Call above = x -> x.setWall(1, NetPlumber.UP, true);
        Call left = x -> x.setWall(3, NetPlumber.LEFT, false);
        for (Call call : new Call[] {above, left}) {
            NetPlumber x = Boards.busy();
            Check.dueState("setWall at the border", () -> call.answer(x));
            Check.due("setWall at the border changes nothing", Picture.of(Boards.busy()), () -> Picture.of(x));
        }
    }

    private static void promise6SetLock() {
        refused("setLock, no such cell", INDEX, x -> x.setLock(-1, true));
        refused("setLock, cell of the size", INDEX, x -> x.setLock(x.size(), true));
        refused("setLock, a cell by 32 greater", INDEX, x -> x.setLock(32, true));
        refused("setLock away, a locked cell by 32 greater", INDEX, x -> x.setLock(40, false));
    }

    private static void promise7SetSource() {
        refused("setSource, no such cell", INDEX, x -> x.setSource(-1));
        refused("setSource, cell of the size", INDEX, x -> x.setSource(x.size()));
    }

    private static void promise8Turn() {
        refused("turn, no such cell", INDEX, x -> x.turn(-1));
        refused("turn, cell of the size", INDEX, x -> x.turn(x.size()));
        refused("turn, locked", STATE, x -> x.turn(8));
        refused("turn, another one locked", STATE, x -> x.turn(2));
        refused("turn, a locked cell by 32 greater", INDEX, x -> x.turn(40));
        refused("turn, all locked and no such cell", INDEX, x -> x.turn(Integer.MAX_VALUE));
    }

    /** After two undos there is none left, but three to be done again. */
    private static void promise9Undo() {
        NetPlumber x = Boards.busy();
        NetPlumber same = Boards.busy();
        for (NetPlumber one : new NetPlumber[] {x, same}) {
            Check.due("undo", 1, one::undo);
            Check.due("undo", 0, one::undo);
        }
        Check.dueState("undo of none", x::undo);
        Check.dueState("undo of none again", x::undo);
        Check.due("undo of none changes nothing", Picture.of(same), () -> Picture.of(x));
    }

    private static void promise10Redo() {
        NetPlumber x = Boards.busy();
        NetPlumber same = Boards.busy();
        for (NetPlumber one : new NetPlumber[] {x, same}) {
            Check.due("redo", 3, one::redo);
        }
        Check.dueState("redo of none", x::redo);
        Check.dueState("redo of none again", x::redo);
        Check.due("redo of none changes nothing", Picture.of(same), () -> Picture.of(x));
    }

    /** Promises 13, 14, 15 and 18. */
    private static void promises13To18Looks() {
        refused("tile, no such cell", INDEX, x -> x.tile(-1));
        refused("tile, cell of the size", INDEX, x -> x.tile(x.size()));
        refused("neighbour, no such cell", INDEX, x -> x.neighbour(x.size(), NetPlumber.UP));
        refused("neighbour, no such side", INDEX, x -> x.neighbour(0, 4));
        refused("isJoined, no such cell", INDEX, x -> x.isJoined(-1, NetPlumber.RIGHT));
        refused("isJoined, no such side", INDEX, x -> x.isJoined(0, -1));
        refused("isWatered, no such cell", INDEX, x -> x.isWatered(x.size()));
        refused("isWatered, the source by 32 greater", INDEX, x -> x.isWatered(39));
    }

    private static void promise20Lays() {
        refused("lays, no such cell", INDEX, x -> x.lays(-1));
        refused("lays, cell of the size", INDEX, x -> x.lays(x.size()));
    }

    private static void promise23First() {
        refused("first, no such cell", INDEX, x -> x.first(-1));
        refused("first, cell of the size", INDEX, x -> x.first(x.size()));
        refused("first, no solution", STATE, x -> x.first(0));
        refused("first of the last cell, no solution", STATE, x -> x.first(x.size() - 1));
    }

    private static void promise24FewestTurns() {
        refused("fewestTurns, no solution", STATE, NetPlumber::fewestTurns);
    }
}
