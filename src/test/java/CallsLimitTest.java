/** "An object is used for at most 512 calls": each of these many calls is answered, the last one too. */
public final class CallsLimitTest {
    private static final int CALLS = 512;

    private CallsLimitTest() {
    }

    public static void main(String[] args) {
        turns();
        turnsOfAllCells();
        turnsThenUndos();
        turnsUndosRedos();
        turnUndoAndRedoInTurn();
        turnsOverUndoneOnes();
        boards();
        solutionsOfManyBoards();
        refusedCalls();
        Check.end();
    }

    private static void turns() {
        NetPlumber x = new NetPlumber();
        x.setTile(0, 1);
        int tile = 1;
        for (int call = 2; call <= CALLS; call++) {
            tile = tile == 8 ? 1 : 2 * tile;
            Check.due("turn as call " + call, tile, () -> x.turn(0));
            if (call == CALLS - 2) {
                Check.due("moves before the last one", CALLS - 3, x::moves);
                call++;
            }
        }
        NetPlumber y = new NetPlumber();
        for (int call = 1; call <= CALLS; call++) {
            Check.due("turn of a closed tile as call " + call, 0, () -> y.turn(8));
        }
    }

    private static void turnsOfAllCells() {
        NetPlumber x = new NetPlumber();
        x.make(4, 4, false, 1234);
        int[] tiles = new int[16];
        for (int cell = 0; cell < 16; cell++) {
            tiles[cell] = x.tile(cell);
        }
        for (int k = 0; k < 480; k++) {
            x.turn(k % 16);
        }
        // 1 and 16 and 480 calls: 30 turns of each cell are two
        for (int cell = 0; cell < 14; cell++) {
            int at = cell;
            int due = tiles[at] >> 2 | tiles[at] << 2 & 15;
            Check.due("tile " + at + " after 30 turns", due, () -> x.tile(at));
        }
        Check.due("moves as the last call", 480, x::moves);
    }

    private static void turnsThenUndos() {
        NetPlumber x = new NetPlumber();
        x.setTile(0, 1);
        for (int k = 0; k < 255; k++) {
            x.turn(0);
        }
        for (int k = 254; k >= 0; k--) {
            Check.due("undo of one of many", k, x::undo);
        }
        Check.due("tile as the last call", 1, () -> x.tile(0));
    }

    private static void turnsUndosRedos() {
        NetPlumber x = new NetPlumber();
        for (int k = 0; k < 170; k++) {
            x.turn(k % 9);
        }
        for (int k = 169; k >= 0; k--) {
            Check.due("undo of 170", k, x::undo);
        }
        for (int k = 1; k <= 170; k++) {
            Check.due("redo of 170", k, x::redo);
        }
        Check.dueState("redo of no more", x::redo);
        Check.due("moves as the last call", 170, x::moves);
    }

    private static void turnUndoAndRedoInTurn() {
        NetPlumber x = new NetPlumber();
        for (int k = 0; k < 128; k++) {
            int moves = k;
            x.turn(4);
            Check.due("undo", moves, x::undo);
            Check.due("redo", moves + 1, x::redo);
            Check.due("moves", moves + 1, x::moves);
        }
    }

    private static void turnsOverUndoneOnes() {
        NetPlumber x = new NetPlumber();
        for (int k = 0; k < 102; k++) {
            x.turn(k % 9);
            x.turn(0);
            x.undo();
            Check.due("turn over an undone one", 0, () -> x.turn(8));
            Check.due("undo of it", k + 1, x::undo);
        }
        Check.due("redo of the last one", 103, x::redo);
        Check.dueState("redo of no more", x::redo);
    }

    private static void boards() {
        NetPlumber x = new NetPlumber();
        for (int call = 1; call < CALLS; call++) {
            if (call % 2 == 0) {
                Check.due("begin as call " + call, 16, () -> x.begin(4, 4, false));
            } else {
                Check.due("make as call " + call, 2, () -> x.make(2, 2, false, 0));
            }
        }
        Check.due("size as the last call", 4, x::size);
    }

    /** The dearest calls, one after the other. */
    private static void solutionsOfManyBoards() {
        NetPlumber x = new NetPlumber();
        for (int k = 0; k < 102; k++) {
            x.make(4, 3, true, 641 * k);
            Reference reference = new Reference(k);
            reference.make(4, 3, true, 641 * k);
            Check.due("solutions", reference.solutions(), x::solutions);
            Check.due("solutionsBySweep", reference.solutions(), x::solutionsBySweep);
            Check.due("fewestTurns", reference.fewestTurns(), x::fewestTurns);
            Check.due("first", reference.first(11), () -> x.first(11));
        }
        Check.due("begin as the last but one", 16, () -> x.begin(4, 4, false));
        Check.due("lays as the last call", 1, () -> x.lays(15));
    }

    private static void refusedCalls() {
        NetPlumber x = new NetPlumber();
        x.setTile(0, 1);
        x.setLock(0, true);
        for (int k = 0; k < 127; k++) {
            Check.dueState("turn of a locked cell", () -> x.turn(0));
            Check.dueState("undo of none", x::undo);
            Check.dueIndex("turn of no cell", () -> x.turn(9));
            Check.dueArgument("begin of no board", () -> x.begin(5, 5, false));
        }
        Check.due("moves", 0, x::moves);
        Check.due("tile as the last call", 1, () -> x.tile(0));
    }
}
