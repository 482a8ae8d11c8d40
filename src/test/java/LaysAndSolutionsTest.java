/** Promises 20 to 24: lays, solutions, solutionsBySweep, first, fewestTurns. */
public final class LaysAndSolutionsTest {
    private static final int[] WRONG = {-1, 9, 16, 32, Integer.MIN_VALUE, Integer.MAX_VALUE};

    private LaysAndSolutionsTest() {
    }

    public static void main(String[] args) {
        promise20OwnLays();
        promise20StruckAtBorderAndWall();
        promise20StruckByNeighbours();
        promise20StruckByCircles();
        promise20LockedCells();
        promise20NothingChanges();
        promises21And22Counts();
        promise22SweepOnRing();
        promise23First();
        promise24FewestTurns();
        wrongArguments();
        Check.end();
    }

    private static NetPlumber board(int width, int height, boolean ring, int... tiles) {
        NetPlumber x = new NetPlumber();
        x.begin(width, height, ring);
        for (int cell = 0; cell < tiles.length; cell++) {
            x.setTile(cell, tiles[cell]);
        }
        return x;
    }

    private static void laysAre(String what, NetPlumber x, int... sets) {
        for (int cell = 0; cell < sets.length; cell++) {
            int at = cell;
            Check.due(what + ": lays(" + at + ")", sets[at], () -> x.lays(at));
        }
    }

    private static void countsAre(String what, NetPlumber x, int count) {
        Check.due(what + ": solutions", count, x::solutions);
        Check.due(what + ": solutionsBySweep", count, x::solutionsBySweep);
    }

    private static void promise20OwnLays() {
        // on a ring board of ends nothing is struck, so that all own lays of one tile amid are left
        NetPlumber x = board(3, 4, true, 1, 1, 1, 1, 1, 1, 1, 1, 1, 1, 1, 1);
        int[] due = {0, 15, 15, 15, 15, 3, 15, 15, 15, 15, 3, 15, 15, 15, 15, 1};
        for (int sides = 0; sides <= 15; sides++) {
            int given = sides;
            x.setTile(4, given);
            Check.due("own lays of " + given, given == 0 ? 1 : due[given], () -> x.lays(4));
        }
    }

    private static void promise20StruckAtBorderAndWall() {
        NetPlumber x = board(2, 2, false, 1, 1, 1, 1);
        laysAre("ends", x, 6, 12, 3, 9);
        countsAre("ends", x, 0);
        x.setWall(0, NetPlumber.RIGHT, true);
        laysAre("ends and a wall", x, 4, 4, 1, 1);
        // both pairs are joined now, so that the ends at the bottom are closed to each other
        x.setWall(0, NetPlumber.RIGHT, false);
        x.turn(0);
        laysAre("ends, one turned", x, 3, 12, 3, 9);
    }

    private static void promise20StruckByNeighbours() {
        // the closed tile strikes what is open to it; the next ones then are open to each other
        NetPlumber x = board(3, 2, false, 0, 1, 3, 1, 1, 1);
        laysAre("beside a closed tile", x, 1, 2, 4, 2, 8, 1);
        NetPlumber y = board(2, 2, false, 6, 8, 1, 0);
        laysAre("open to two ends", y, 1, 1, 1, 1);
        y.setTile(2, 0);
        laysAre("open to a closed tile", y, 0, 0, 0, 0);
        NetPlumber z = board(3, 3, false, 6, 12, 0, 3, 9);
        Check.due("a circle and closed tiles: lays(8)", 0, () -> z.lays(8));
    }

    private static void promise20StruckByCircles() {
        NetPlumber x = board(2, 2, false, 6, 12, 3, 9);
        laysAre("four corners", x, 0, 0, 0, 0);
        x.setWall(0, NetPlumber.RIGHT, true);
        laysAre("four corners and a wall", x, 0, 0, 0, 0);
        // 1-5, 5-6 and 6-2 are settled, so that 1 can not be open to the right, nor 2 to the left;
        // by the neighbours alone 1 and 2 would keep the lays 1 and 2, and 9 others with them
        NetPlumber y = board(4, 3, false, 4, 3, 3, 8, 12, 11, 15, 12, 2, 8, 12, 1);
        y.setLock(5, true);
        laysAre("a way round", y, 8, 4, 2, 1, 8, 1, 1, 1, 8, 4, 2, 1);
        countsAre("a way round", y, 1);
        // with a wall there 2 can only be open to the right, whatever hangs together
        y.setWall(1, NetPlumber.RIGHT, true);
        laysAre("a way round and a wall", y, 8, 4, 2, 1, 8, 1, 1, 1, 8, 4, 2, 1);
    }

    private static void promise20LockedCells() {
        NetPlumber x = board(2, 2, false, 1, 1, 1, 1);
        x.setLock(0, true);
        laysAre("a locked end open at the border", x, 0, 0, 0, 0);
        x.turn(1);
        x.setLock(0, false);
        x.turn(0);
        x.setLock(0, true);
        Check.due("a locked end open to the right", 1, () -> x.lays(0));
        Check.due("its neighbour", 4, () -> x.lays(1));
        x.setLock(0, false);
        Check.due("unlocked again", 3, () -> x.lays(0));
    }

    private static void promise20NothingChanges() {
        NetPlumber x = new NetPlumber();
        x.make(4, 4, false, 77);
        x.turn(3);
        int[] tiles = new int[16];
        for (int cell = 0; cell < 16; cell++) {
            tiles[cell] = x.tile(cell);
        }
        for (int round = 0; round < 2; round++) {
            x.solutions();
            x.lays(7);
            x.solutionsBySweep();
            x.first(9);
            x.fewestTurns();
        }
        for (int cell = 0; cell < 16; cell++) {
            int at = cell;
            Check.due("tile(" + at + ") as it was", tiles[at], () -> x.tile(at));
        }
        Check.due("moves as they were", 1, x::moves);
        Check.due("undo", 0, x::undo);
    }

    private static void promises21And22Counts() {
        countsAre("a tree", board(2, 2, false, 2, 12, 2, 9), 1);
        countsAre("a circle", board(2, 2, false, 6, 12, 3, 9), 0);
        countsAre("all closed", new NetPlumber(), 0);
        countsAre("two pairs", board(2, 2, false, 1, 1, 1, 1), 0);
        // a circle of four and a pair have as many open sides as a tree of six
        countsAre("a circle and a pair", board(3, 2, false, 3, 3, 1, 3, 3, 1), 0);
        NetPlumber walled = board(2, 2, false, 2, 12, 2, 9);
        walled.setWall(1, NetPlumber.DOWN, true);
        countsAre("a wall that no tree can do without", walled, 0);
    }

    private static void promise22SweepOnRing() {
        NetPlumber x = new NetPlumber();
        x.make(4, 3, true, 99);
        countsAre("a made ring board", x, 2);
        // three stars round whole columns: each column has one straight on, and the rows are free
        NetPlumber y = board(3, 3, true, 15, 10, 10, 5, 1, 1, 5, 1, 1);
        countsAre("too few open sides", y, 0);
        Reference reference = new Reference(3);
        int most = 0;
        for (int number = 0; number < 400; number++) {
            reference.make(3, 3, true, number);
            x.make(3, 3, true, number);
            int due = reference.solutions();
            most = Math.max(most, due);
            countsAre("ring board " + number, x, due);
        }
        int found = most;
        Check.due("ring boards with some solutions were met", true, () -> found > 2);
    }

    private static void promise23First() {
        NetPlumber x = board(2, 2, false, 2, 12, 2, 9);
        for (int cell = 0; cell < 4; cell++) {
            int at = cell;
            Check.due("first(" + at + ") of a solved board", 0, () -> x.first(at));
        }
        x.turn(1);
        Check.due("first(1) after a turn", 3, () -> x.first(1));
        x.turn(1);
        x.turn(1);
        Check.due("first(1) after three turns", 1, () -> x.first(1));
        x.setLock(1, true);
        Check.dueState("first(0) with a wrong lock", () -> x.first(0));
        Check.dueIndex("first(4) with a wrong lock", () -> x.first(4));
        Check.dueIndex("first(-1) with a wrong lock", () -> x.first(-1));
        Check.dueState("fewestTurns with a wrong lock", x::fewestTurns);
    }

    private static void promise24FewestTurns() {
        NetPlumber x = board(2, 2, false, 2, 12, 2, 9);
        Check.due("fewestTurns of a solved board", 0, x::fewestTurns);
        x.turn(0);
        Check.due("fewestTurns after a turn", 3, x::fewestTurns);
        x.turn(3);
        x.turn(3);
        Check.due("fewestTurns after two more", 5, x::fewestTurns);
        // the solution with the fewest turns need not be the first one
        Reference reference = new Reference(4);
        NetPlumber y = new NetPlumber();
        int later = 0;
        for (int number = 0; number < 400; number++) {
            reference.make(4, 3, true, number);
            y.make(4, 3, true, number);
            int due = reference.fewestTurns();
            Check.due("fewestTurns of ring board " + number, due, y::fewestTurns);
            int first = 0;
            for (int cell = 0; cell < 12; cell++) {
                first += y.first(cell);
            }
            later += first > due ? 1 : 0;
        }
        int met = later;
        Check.due("boards whose first solution is dearer were met", true, () -> met > 0);
    }

    private static void wrongArguments() {
        NetPlumber x = new NetPlumber();
        for (int wrong : WRONG) {
            Check.dueIndex("lays(" + wrong + ")", () -> x.lays(wrong));
            Check.dueIndex("first(" + wrong + ")", () -> x.first(wrong));
        }
        Check.dueState("first(8) of closed tiles", () -> x.first(8));
        Check.dueState("fewestTurns of closed tiles", x::fewestTurns);
    }
}
