/** Promises 21 to 24: solutions, solutionsBySweep, first, fewestTurns. */
public final class SolutionsTest {
    private static final int RIGHT = NetPlumber.RIGHT;
    private static final int DOWN = NetPlumber.DOWN;
    private static final int LEFT = NetPlumber.LEFT;

    private SolutionsTest() {
    }

    public static void main(String[] args) {
        promises21And22None();
        promises21And22One();
        promises21And22TwoAndMore();
        promises21And22TilesAlikeAreNoOtherSolution();
        promises21And22CirclesAreNone();
        promises21And22CirclesThatNoRuleStrikes();
        promises21And22PartsAreNone();
        promises21And22TooManyAndTooFewOpenSides();
        promises21And22WallsAndLocks();
        promises21And22LockedThatIsWrong();
        promises21And22RoundTheRing();
        promises21And22CirclesRoundTheRing();
        promises21And22WallsRoundTheRing();
        promise22SameBySweepOnAllSizes();
        promises21And22ManySolutions();
        promise23FirstOfOne();
        promise23FirstByCellZero();
        promise23FirstByALaterCell();
        promise23FirstOfASolvedBoard();
        promise23FirstAfterTurns();
        promise23NoSolution();
        promise23NoSuchCell();
        promise23NoSuchCellAndNoSolution();
        promise23TurnsLeadToIt();
        promise24OfOne();
        promise24OfASolvedBoard();
        promise24NotThatOfTheFirst();
        promise24AsManyTurnsAsCanBe();
        promise24NoSolution();
        promises21To24NothingIsChanged();
        Check.end();
    }

    private static void countsAre(String what, NetPlumber x, int count) {
        Check.due(what + ": solutions", count, x::solutions);
        Check.due(what + ": solutionsBySweep", count, x::solutionsBySweep);
    }

    private static void firstIs(String what, NetPlumber x, int... lays) {
        for (int cell = 0; cell < lays.length; cell++) {
            int at = cell;
            Check.due(what + ": first(" + at + ")", lays[at], () -> x.first(at));
        }
    }

    private static NetPlumber path() {
        return Boards.laid(2, 2, false, 2, 12, 2, 9);
    }

    /** "how many solutions there are": 0. */
    private static void promises21And22None() {
        countsAre("a new object", new NetPlumber(), 0);
        countsAre("the most cells, all closed", Boards.laid(4, 4, false), 0);
        countsAre("a ring board, all closed", Boards.laid(4, 3, true), 0);
        countsAre("the least board, all open", Boards.laid(2, 2, false, 15, 15, 15, 15), 0);
    }

    private static void promises21And22One() {
        countsAre("a path", path(), 1);
        countsAre("a path, turned", Boards.laid(2, 2, false, 8, 3, 4, 6), 1);
        countsAre("a comb", Boards.laid(3, 2, false, 1, 2, 8, 6, 7, 3), 1);
    }

    private static void promises21And22TwoAndMore() {
        countsAre("a mill", Boards.mill(), 2);
        countsAre("a mill below a row", Boards.millBelowRow(), 2);
        NetPlumber x = Boards.mill();
        x.turn(0);
        x.setLock(0, true);
        countsAre("a mill, one end locked", x, 1);
    }

    /** A cross has one lay and a tile of two opposite sides has two: no solution is counted twice. */
    private static void promises21And22TilesAlikeAreNoOtherSolution() {
        countsAre("a straight way amid", Boards.laid(3, 2, false, 3, 5, 1, 1, 5, 3), 0);
        countsAre("straight ways", Boards.laid(3, 2, false, 1, 5, 3, 1, 5, 3), 1);
        NetPlumber x = Boards.laid(3, 2, false, 2, 10, 12, 2, 10, 9);
        countsAre("straight ways as they must be", x, 1);
    }

    /** "joined to one tree": what fits, with one pair too many. */
    private static void promises21And22CirclesAreNone() {
        countsAre("a circle", Boards.laid(2, 2, false, 6, 12, 3, 9), 0);
        countsAre("a circle, turned", Boards.laid(2, 2, false, 3, 3, 3, 3), 0);
        countsAre("two circles", Boards.laid(3, 2, false, 6, 14, 12, 3, 11, 9), 0);
        NetPlumber x = Boards.laid(3, 2, false, 6, 14, 12, 3, 11, 9);
        for (int cell = 0; cell < 6; cell++) {
            x.setLock(cell, true);
        }
        countsAre("two circles, locked", x, 0);
    }

    /** 20 open sides may fit to 10 pairs that join all cells; a tree of 9 cells has 8. */
    private static void promises21And22CirclesThatNoRuleStrikes() {
        NetPlumber x = Boards.laid(3, 3, true, 3, 5, 3, 7, 3, 1, 3, 7, 7);
        Check.due("lays are left of each cell", "15 3 15 15 15 15 15 15 15", () -> laysOf(x));
        countsAre("ten pairs among nine cells", x, 0);
        Check.dueState("first(0) of them", () -> x.first(0));
        Check.dueState("fewestTurns of them", x::fewestTurns);
        NetPlumber y = Boards.laid(3, 3, true, 5, 7, 7, 3, 1, 3, 3, 7, 5);
        countsAre("ten pairs among nine cells, others", y, 0);
    }

    private static String laysOf(NetPlumber x) {
        StringBuilder all = new StringBuilder();
        for (int cell = 0; cell < x.size(); cell++) {
            all.append(cell == 0 ? "" : " ").append(x.lays(cell));
        }
        return all.toString();
    }

    /** "one comes from each cell to each other one": what fits, with as many pairs as a tree has. */
    private static void promises21And22PartsAreNone() {
        countsAre("two pairs", Boards.laid(2, 2, false, 1, 1, 1, 1), 0);
        NetPlumber x = Boards.laid(3, 2, false, 6, 12, 4, 3, 9, 1);
        countsAre("a circle and a pair", x, 0);
        for (int cell = 0; cell < 6; cell++) {
            x.setLock(cell, true);
        }
        countsAre("a circle and a pair, locked", x, 0);
        NetPlumber y = Boards.laid(3, 2, false, 4, 6, 12, 1, 3, 9);
        countsAre("a pair and a circle", y, 0);
        countsAre("a path and a closed cell", Boards.laid(2, 2, false, 2, 12, 0, 1), 0);
        countsAre("a closed cell and a path", Boards.laid(2, 2, false, 0, 4, 2, 9), 0);
        countsAre("a path and a closed last cell", Boards.laid(2, 2, false, 6, 8, 1, 0), 0);
    }

    private static void promises21And22TooManyAndTooFewOpenSides() {
        countsAre("one side too many", Boards.laid(2, 2, false, 3, 12, 2, 9), 0);
        countsAre("one side too few", Boards.laid(2, 2, false, 2, 12, 2, 1), 0);
        countsAre("a ring board, too few", Boards.laid(3, 3, true, 15, 10, 10, 5, 1, 1, 5, 1, 1), 0);
        countsAre("a ring board, all open", Boards.laid(3, 3, true, 15, 15, 15, 15, 15, 15, 15, 15, 15), 0);
    }

    private static void promises21And22WallsAndLocks() {
        NetPlumber x = path();
        x.setWall(0, DOWN, true);
        countsAre("a wall beside the only tree", x, 1);
        x.setWall(1, DOWN, true);
        countsAre("a wall that no tree can do without", x, 0);
        x.setWall(1, DOWN, false);
        countsAre("it is gone", x, 1);
        NetPlumber y = Boards.mill();
        y.setWall(0, RIGHT, true);
        countsAre("a mill, a wall on one way round", y, 1);
        y.setWall(0, DOWN, true);
        countsAre("a mill, walls on both ways round", y, 0);
        NetPlumber z = path();
        for (int cell = 0; cell < 4; cell++) {
            z.setLock(cell, true);
        }
        countsAre("all locked and solved", z, 1);
    }

    private static void promises21And22LockedThatIsWrong() {
        NetPlumber x = path();
        x.turn(2);
        x.setLock(2, true);
        countsAre("locked turned away", x, 0);
        x.setLock(2, false);
        countsAre("unlocked", x, 1);
        NetPlumber y = Boards.mill();
        y.setLock(8, true);
        countsAre("a mill, locked as it is in the second", y, 1);
        y.turn(0);
        y.setLock(0, true);
        countsAre("and locked as it is in the first", y, 0);
    }

    private static NetPlumber treeRoundTheBorder() {
        return Boards.laid(3, 3, true, 15, 8, 2, 11, 8, 2, 14, 8, 2);
    }

    private static void lockAll(NetPlumber x) {
        for (int cell = 0; cell < x.size(); cell++) {
            x.setLock(cell, true);
        }
    }

    /** Trees that lead over the border, in rows and in columns. */
    private static void promises21And22RoundTheRing() {
        NetPlumber x = treeRoundTheBorder();
        lockAll(x);
        countsAre("a tree round the border", x, 1);
        Reference reference = new Reference(1);
        reference.begin(3, 3, true);
        for (int cell = 0; cell < 9; cell++) {
            reference.setTile(cell, x.tile(cell));
        }
        countsAre("the same, unlocked", treeRoundTheBorder(), reference.solutions());
        countsAre("round the row alone", Boards.laid(3, 3, true, 8, 1, 2, 7, 15, 7, 8, 1, 2), 1);
        countsAre("round the column alone", Boards.laid(3, 3, true, 1, 7, 1, 8, 15, 8, 1, 7, 1), 1);
    }

    /** Circles that close only round the ring board. */
    private static void promises21And22CirclesRoundTheRing() {
        NetPlumber x = Boards.laid(3, 3, true, 15, 8, 2, 15, 8, 2, 15, 8, 2);
        lockAll(x);
        countsAre("a circle round the column", x, 0);
        NetPlumber y = Boards.laid(3, 3, true, 10, 10, 10, 2, 14, 8, 2, 11, 8);
        lockAll(y);
        countsAre("a circle round the row and a tree", y, 0);
        NetPlumber z = Boards.laid(3, 3, true, 5, 4, 4, 5, 7, 13, 5, 1, 1);
        lockAll(z);
        Check.due("a circle round the column and a tree: loose", 0, z::loose);
        countsAre("a circle round the column and a tree", z, 0);
        NetPlumber w = Boards.laid(4, 3, true, 2, 14, 10, 8, 2, 11, 10, 8, 10, 10, 10, 10);
        lockAll(w);
        Check.due("a circle round the last row: loose", 0, w::loose);
        countsAre("a circle round the last row", w, 0);
    }

    private static void promises21And22WallsRoundTheRing() {
        NetPlumber x = treeRoundTheBorder();
        lockAll(x);
        x.setWall(0, LEFT, true);
        countsAre("a wall in the tree round the border", x, 0);
        x.setWall(0, LEFT, false);
        x.setWall(1, RIGHT, true);
        countsAre("a wall beside it", x, 1);
    }

    /** "Returns the same", on the least board and the largest ones, and on all between. */
    private static void promise22SameBySweepOnAllSizes() {
        for (int number = 0; number < 65536; number += 2731) {
            for (int[] board : Boards.PLAIN) {
                sameBySweep(board, false, number);
            }
            for (int[] board : Boards.RINGS) {
                sameBySweep(board, true, number);
            }
        }
    }

    private static void sameBySweep(int[] board, boolean ring, int number) {
        NetPlumber x = new NetPlumber();
        Reference reference = new Reference(2);
        x.make(board[0], board[1], ring, number);
        reference.make(board[0], board[1], ring, number);
        countsAre(board[0] + "x" + board[1] + (ring ? " ring " : " ") + number, x, reference.solutions());
    }

    /** Ring boards of few closed sides have more solutions than two. */
    private static void promises21And22ManySolutions() {
        int most = 0;
        for (int number = 0; number < 400; number++) {
            NetPlumber x = new NetPlumber();
            Reference reference = new Reference(3);
            x.make(3, 3, true, number);
            reference.make(3, 3, true, number);
            int due = reference.solutions();
            most = Math.max(most, due);
            countsAre("ring board " + number, x, due);
        }
        int met = most;
        Check.due("ring boards with some solutions were met", true, () -> met > 2);
    }

    /** "Returns the lay of a cell in the first solution." */
    private static void promise23FirstOfOne() {
        firstIs("a path, turned", Boards.laid(2, 2, false, 8, 3, 4, 6), 2, 2, 3, 2);
    }

    /** "compared by the lays of the cell 0 .. the first one is that with the lesser lay". */
    private static void promise23FirstByCellZero() {
        firstIs("a mill", Boards.mill(), 1, 2, 2, 1, 0, 3, 0, 0, 3);
        NetPlumber x = Boards.mill();
        x.turn(0);
        x.turn(0);
        // of 1 and 2 quarters there are left 3 and 0
        firstIs("a mill, the cell 0 turned", x, 0, 1, 3, 0, 0, 2, 1, 3, 0);
    }

    /** "then of the cell 1, and so on", whatever the lays behind the cell where it differs. */
    private static void promise23FirstByALaterCell() {
        firstIs("a mill below a row", Boards.millBelowRow(), 1, 0, 3, 1, 2, 2, 1, 0, 3, 0, 0, 3);
        NetPlumber x = Boards.millBelowRow();
        x.turn(3);
        x.turn(3);
        firstIs("a mill below a row, turned", x, 1, 0, 3, 0, 0, 3, 0, 0, 2, 1, 3, 0);
    }

    private static void promise23FirstOfASolvedBoard() {
        firstIs("a path", path(), 0, 0, 0, 0);
        NetPlumber x = path();
        lockAll(x);
        firstIs("a path, all locked", x, 0, 0, 0, 0);
    }

    private static void promise23FirstAfterTurns() {
        NetPlumber x = path();
        x.turn(1);
        Check.due("first(1) after a turn", 3, () -> x.first(1));
        x.turn(1);
        Check.due("first(1) after two turns", 2, () -> x.first(1));
        x.turn(1);
        Check.due("first(1) after three turns", 1, () -> x.first(1));
        x.turn(1);
        Check.due("first(1) after four turns", 0, () -> x.first(1));
        x.undo();
        Check.due("first(1) after an undo", 1, () -> x.first(1));
    }

    /** "Throws IllegalStateException if there is no solution". */
    private static void promise23NoSolution() {
        NetPlumber x = new NetPlumber();
        for (int cell = 0; cell < 9; cell++) {
            int at = cell;
            Check.dueState("first(" + at + ") of closed tiles", () -> x.first(at));
        }
        NetPlumber y = path();
        Check.due("first(0), there is a solution", 0, () -> y.first(0));
        y.setWall(0, RIGHT, true);
        Check.dueState("first(0), there is none any more", () -> y.first(0));
        y.setWall(0, RIGHT, false);
        Check.due("first(0), there is one again", 0, () -> y.first(0));
        Check.dueState("first(3) of a circle", () -> Boards.laid(2, 2, false, 6, 12, 3, 9).first(3));
    }

    /** "Throws IndexOutOfBoundsException if there is no such cell". */
    private static void promise23NoSuchCell() {
        NetPlumber x = path();
        Check.dueIndex("first(-1)", () -> x.first(-1));
        Check.dueIndex("first(4)", () -> x.first(4));
        for (int far : Boards.FAR) {
            Check.dueIndex("first(" + far + ")", () -> x.first(far));
        }
        Check.due("first of the last cell", 0, () -> x.first(3));
    }

    /** "If several exceptions apply, the one that the throws clause names first is thrown." */
    private static void promise23NoSuchCellAndNoSolution() {
        Boards.noSuchCell("first", (x, cell) -> x.first(cell));
    }

    private static void promise23TurnsLeadToIt() {
        NetPlumber x = new NetPlumber();
        x.make(4, 4, false, 31337);
        for (int cell = 0; cell < 16; cell++) {
            int lay = x.first(cell);
            for (int k = 0; k < lay; k++) {
                x.turn(cell);
            }
        }
        Check.due("solved by its first solution", true, x::isSolved);
    }

    /** "the least sum of all lays over all solutions". */
    private static void promise24OfOne() {
        NetPlumber x = Boards.laid(2, 2, false, 8, 3, 4, 6);
        Check.due("fewestTurns of a path, turned", 9, x::fewestTurns);
        NetPlumber y = path();
        y.turn(0);
        Check.due("fewestTurns after a turn", 3, y::fewestTurns);
        y.turn(3);
        y.turn(3);
        Check.due("fewestTurns after two more", 5, y::fewestTurns);
    }

    /** The least there is: 0. */
    private static void promise24OfASolvedBoard() {
        Check.due("fewestTurns of a path", 0, path()::fewestTurns);
        NetPlumber x = Boards.mill();
        int[] second = {2, 1, 3, 0, 0, 2, 1, 3, 0};
        for (int cell = 0; cell < 9; cell++) {
            for (int k = 0; k < second[cell]; k++) {
                x.turn(cell);
            }
        }
        Check.due("solved", true, x::isSolved);
        Check.due("fewestTurns of a mill solved", 0, x::fewestTurns);
    }

    private static void promise24NotThatOfTheFirst() {
        Check.due("both need as many", 12, Boards.mill()::fewestTurns);
        NetPlumber x = Boards.mill();
        x.turn(7);
        firstIs("a mill, the cell 7 turned", x, 1, 2, 2, 1, 0, 3, 0, 3, 3);
        Check.due("the second needs fewer", 11, x::fewestTurns);
        NetPlumber y = Boards.millBelowRow();
        Check.due("the second needs fewer below a row", 15, y::fewestTurns);
        NetPlumber z = Boards.mill();
        z.turn(8);
        Check.due("the first needs fewer", 11, z::fewestTurns);
    }

    /** Each cell three quarters, where it has four lays. */
    private static void promise24AsManyTurnsAsCanBe() {
        NetPlumber x = path();
        for (int cell = 0; cell < 4; cell++) {
            x.turn(cell);
        }
        Check.due("three quarters of each cell", 12, x::fewestTurns);
        firstIs("three quarters of each cell", x, 3, 3, 3, 3);
    }

    /** "Throws IllegalStateException if there is no solution". */
    private static void promise24NoSolution() {
        Check.dueState("fewestTurns of closed tiles", () -> new NetPlumber().fewestTurns());
        NetPlumber x = path();
        x.turn(1);
        x.setLock(1, true);
        Check.dueState("fewestTurns with a wrong lock", x::fewestTurns);
        x.setLock(1, false);
        Check.due("fewestTurns without it", 3, x::fewestTurns);
        Check.dueState("fewestTurns of a circle", () -> Boards.laid(2, 2, false, 6, 12, 3, 9).fewestTurns());
        Check.dueState("fewestTurns of two pairs", () -> Boards.laid(2, 2, false, 1, 1, 1, 1).fewestTurns());
    }

    /** "nothing from here on changes anything". */
    private static void promises21To24NothingIsChanged() {
        NetPlumber x = Boards.busy();
        NetPlumber y = Boards.busyRing();
        for (NetPlumber one : new NetPlumber[] {x, y}) {
            for (int round = 0; round < 2; round++) {
                one.solutions();
                one.solutionsBySweep();
                Check.answerOf(() -> one.first(3));
                Check.answerOf(one::fewestTurns);
            }
        }
        Check.due("all as it was", Picture.of(Boards.busy()), () -> Picture.of(x));
        Check.due("all as it was on a ring board", Picture.of(Boards.busyRing()), () -> Picture.of(y));
        NetPlumber z = Boards.millBelowRow();
        z.solutions();
        z.solutionsBySweep();
        z.first(1);
        z.fewestTurns();
        Check.due("all as it was, with solutions", Picture.of(Boards.millBelowRow()), () -> Picture.of(z));
    }
}
