import java.util.Arrays;

/** Promise 20: lays, and the sentences on which lays there are and which are struck. */
public final class LaysTest {
    private static final int RIGHT = NetPlumber.RIGHT;
    private static final int DOWN = NetPlumber.DOWN;
    private static final int LEFT = NetPlumber.LEFT;

    private LaysTest() {
    }

    public static void main(String[] args) {
        promise20OwnLaysOfEachTile();
        promise20LockedCellHasLayZeroAlone();
        promise20UnlockedCellHasItsLaysAgain();
        promise20NoneStruck();
        promise20AllStruck();
        promise20NoSuchCell();
        promise20StruckAtTheBorder();
        promise20NoBorderOnRing();
        promise20StruckAtWalls();
        promise20StruckAtAWallRoundTheRing();
        promise20WalledInAllRound();
        promise20StruckBesideAClosedTile();
        promise20StruckBesideATileThatIsOpen();
        promise20StruckBesideACellWithNoneLeft();
        promise20NotStruckOverAWall();
        promise20AgainAndAgain();
        promise20AgainAndAgainUntilNoneIsLeft();
        promise20JoinsThatMustBe();
        promise20HangTogetherInASquare();
        promise20HangTogetherFarOff();
        promise20HangTogetherRoundTheRow();
        promise20HangTogetherRoundTheColumn();
        promise20HangTogetherOverEachCell();
        promise20HangTogetherOverACorner();
        promise20NotOverTheCellItself();
        promise20NotOverJointsThatMayBe();
        promise20NotOverWalls();
        promise20LaysFollowEachChange();
        promise20NothingIsChanged();
        Check.end();
    }

    private static NetPlumber ends(int width, int height, boolean ring) {
        int[] tiles = new int[width * height];
        Arrays.fill(tiles, 1);
        return Boards.laid(width, height, ring, tiles);
    }

    private static void laysAre(String what, NetPlumber x, int... sets) {
        for (int cell = 0; cell < sets.length; cell++) {
            int at = cell;
            Check.due(what + ": lays(" + at + ")", sets[at], () -> x.lays(at));
        }
    }

    /** "each of which makes another tile of the one that it has than any lesser number does". */
    private static void promise20OwnLaysOfEachTile() {
        int[] due = {1, 15, 15, 15, 15, 3, 15, 15, 15, 15, 3, 15, 15, 15, 15, 1};
        for (int sides = 0; sides <= 15; sides++) {
            // among ends on a ring board nothing of a cell is struck
            NetPlumber x = ends(3, 4, true);
            x.setTile(4, sides);
            Check.due("lays of " + sides, due[sides], () -> x.lays(4));
        }
    }

    /** "a locked cell has the lay 0 alone". */
    private static void promise20LockedCellHasLayZeroAlone() {
        for (int sides = 0; sides <= 15; sides++) {
            NetPlumber x = ends(3, 4, true);
            x.setTile(4, sides);
            x.setLock(4, true);
            Check.due("lays of " + sides + ", locked", 1, () -> x.lays(4));
        }
        NetPlumber x = Boards.laid(2, 2, false, 1, 1, 1, 1);
        x.setLock(0, true);
        laysAre("a locked end open at the border", x, 0, 0, 0, 0);
        NetPlumber y = Boards.laid(2, 2, false, 2, 2, 1, 1);
        y.setLock(0, true);
        laysAre("a locked end open to its neighbour", y, 1, 4, 2, 8);
    }

    private static void promise20UnlockedCellHasItsLaysAgain() {
        NetPlumber x = Boards.laid(2, 2, false, 2, 2, 1, 1);
        x.setLock(0, true);
        Check.due("locked", 1, () -> x.lays(0));
        x.setLock(0, false);
        laysAre("unlocked", x, 3, 6, 3, 9);
    }

    /** A set of all lays. */
    private static void promise20NoneStruck() {
        laysAre("ends on a ring board", ends(3, 3, true), 15, 15, 15, 15, 15, 15, 15, 15, 15);
        laysAre("closed tiles", new NetPlumber(), 1, 1, 1, 1, 1, 1, 1, 1, 1);
    }

    /** A set of no lays. */
    private static void promise20AllStruck() {
        NetPlumber x = Boards.laid(2, 2, false, 15, 15, 15, 15);
        laysAre("crosses at the border", x, 0, 0, 0, 0);
    }

    /** "Throws IndexOutOfBoundsException if there is no such cell". */
    private static void promise20NoSuchCell() {
        Boards.noSuchCell("lays", (x, cell) -> x.lays(cell));
    }

    /** "if the tile that it makes is open at a side at which there is no neighbour". */
    private static void promise20StruckAtTheBorder() {
        laysAre("ends", ends(3, 3, false), 6, 14, 12, 7, 15, 13, 3, 11, 9);
        laysAre("ends on the least board", ends(2, 2, false), 6, 12, 3, 9);
    }

    private static void promise20NoBorderOnRing() {
        laysAre("ends in rows of 4", ends(4, 3, true), 15, 15, 15, 15, 15, 15, 15, 15, 15, 15, 15, 15);
        laysAre("ends in rows of 3", ends(3, 4, true), 15, 15, 15, 15, 15, 15, 15, 15, 15, 15, 15, 15);
    }

    /** ".. at which there is no neighbour, or a wall": at both cells. */
    private static void promise20StruckAtWalls() {
        int[] beside = {1, 5, 7, 3};
        int[] left = {11, 7, 14, 13};
        for (int side = 0; side < 4; side++) {
            NetPlumber x = ends(3, 3, true);
            int at = side;
            x.setWall(4, side, true);
            Check.due("a wall at " + at, 15 - (1 << at), () -> x.lays(4));
            Check.due("the same from the other", left[at], () -> x.lays(beside[at]));
            Check.due("a cell without walls", 15, () -> x.lays(0));
        }
    }

    private static void promise20StruckAtAWallRoundTheRing() {
        NetPlumber x = ends(3, 3, true);
        x.setWall(0, LEFT, true);
        x.setWall(7, DOWN, true);
        laysAre("walls round the ring", x, 7, 14, 13, 15, 15, 15, 15, 11, 15);
    }

    /** A cell with no lays left behind its walls leaves the others theirs. */
    private static void promise20WalledInAllRound() {
        NetPlumber x = ends(3, 3, true);
        for (int side = 0; side < 4; side++) {
            x.setWall(4, side, true);
        }
        laysAre("walled in", x, 15, 11, 15, 13, 0, 7, 15, 14, 15);
        x.setTile(4, 0);
        Check.due("closed and walled in", 1, () -> x.lays(4));
    }

    /** "the tile that it makes is open, and no lay left of the neighbour is open to the cell". */
    private static void promise20StruckBesideAClosedTile() {
        NetPlumber x = ends(3, 3, true);
        x.setTile(4, 0);
        laysAre("beside a closed tile", x, 15, 11, 15, 13, 1, 7, 15, 14, 15);
    }

    /** "or it is closed there, and no lay left of the neighbour is closed to it". */
    private static void promise20StruckBesideATileThatIsOpen() {
        NetPlumber x = ends(3, 3, true);
        x.setTile(4, 15);
        laysAre("beside a cross", x, 9, 4, 3, 2, 1, 8, 12, 1, 6);
    }

    /** No lay left is neither open nor closed: all of its neighbours fall, whatever they are. */
    private static void promise20StruckBesideACellWithNoneLeft() {
        laysAre("beside a cross at the border", Boards.laid(2, 2, false, 15, 1, 1, 1), 0, 0, 0, 0);
        laysAre("closed beside it", Boards.laid(2, 2, false, 15, 0, 0, 0), 0, 0, 0, 0);
        laysAre("farther off", Boards.laid(5, 2, false, 15, 0, 0, 0, 0, 0, 0, 0, 0, 1), 0, 0, 0, 0, 0, 0, 0, 0, 0, 0);
    }

    /** "at which there is a neighbour and no wall". */
    private static void promise20NotStruckOverAWall() {
        NetPlumber x = Boards.laid(2, 2, false, 15, 1, 1, 3);
        x.setWall(0, RIGHT, true);
        x.setWall(0, DOWN, true);
        laysAre("beside a cross walled in", x, 0, 4, 2, 8);
    }

    /** A board whose ways are one path from the cell 0 on, row by row to and fro. */
    private static NetPlumber pathOfEnds(int width, int height) {
        NetPlumber x = ends(width, height, false);
        for (int cell = 0; cell + width < width * height; cell++) {
            boolean toTheRight = cell / width % 2 == 0;
            if (cell % width != (toTheRight ? width - 1 : 0)) {
                x.setWall(cell, DOWN, true);
            }
        }
        return x;
    }

    /** "again and again until nothing changes": each pair of ends on the way decides the next one. */
    private static void promise20AgainAndAgain() {
        laysAre("a way of 16 ends", pathOfEnds(4, 4), 2, 8, 2, 8, 2, 8, 2, 8, 2, 8, 2, 8, 2, 8, 2, 8);
    }

    private static void promise20AgainAndAgainUntilNoneIsLeft() {
        laysAre("a way of 15 ends", pathOfEnds(5, 3), 0, 0, 0, 0, 0, 0, 0, 0, 0, 0, 0, 0, 0, 0, 0);
        laysAre("a way of 9 ends", pathOfEnds(3, 3), 0, 0, 0, 0, 0, 0, 0, 0, 0);
    }

    /** A corner and its neighbours decide each other, so that a lay alone is left of each. */
    private static void promise20JoinsThatMustBe() {
        laysAre("a path", Boards.laid(2, 2, false, 2, 12, 2, 9), 1, 1, 1, 1);
        laysAre("a path, turned", Boards.laid(2, 2, false, 4, 3, 8, 9), 8, 4, 4, 1);
        laysAre("a mill", Boards.mill(), 6, 6, 12, 3, 1, 12, 3, 9, 9);
    }

    /** "open, without a wall, to two neighbours that hang together without the cell". */
    private static void promise20HangTogetherInASquare() {
        laysAre("four corners", Boards.laid(2, 2, false, 6, 12, 3, 9), 0, 0, 0, 0);
        laysAre("four corners, turned", Boards.laid(2, 2, false, 3, 3, 3, 3), 0, 0, 0, 0);
    }

    /**
     * 1-5, 5-6 and 6-2 are settled, so that 1 can not be open to the right, nor 2 to the left; by the
     * neighbours alone 1 and 2 would keep the lays 1 and 2, and 9 others with them.
     */
    private static void promise20HangTogetherFarOff() {
        NetPlumber x = Boards.laid(4, 3, false, 4, 3, 3, 8, 12, 11, 15, 12, 2, 8, 12, 1);
        x.setLock(5, true);
        laysAre("a way round", x, 8, 4, 2, 1, 8, 1, 1, 1, 8, 4, 2, 1);
    }

    /**
     * The cross joins 3 with 5 at the left and right of it, which are neighbours round the row: so they
     * must not be open to each other there. Without that they and most of the ends kept three lays.
     */
    private static void promise20HangTogetherRoundTheRow() {
        NetPlumber x = Boards.laid(3, 3, true, 8, 1, 2, 7, 15, 7, 8, 1, 2);
        laysAre("round the row", x, 8, 4, 2, 1, 1, 4, 2, 1, 8);
    }

    private static void promise20HangTogetherRoundTheColumn() {
        NetPlumber x = Boards.laid(3, 3, true, 1, 7, 1, 8, 15, 8, 1, 7, 1);
        laysAre("round the column", x, 2, 2, 8, 4, 1, 1, 2, 8, 8);
    }

    /** The two boards before, moved on so that the cross is at each cell, the first and last one too. */
    private static void promise20HangTogetherOverEachCell() {
        int[][] tiles = {{8, 1, 2, 7, 15, 7, 8, 1, 2}, {1, 7, 1, 8, 15, 8, 1, 7, 1}};
        int[][] due = {{8, 4, 2, 1, 1, 4, 2, 1, 8}, {2, 2, 8, 4, 1, 1, 2, 8, 8}};
        for (int board = 0; board < 2; board++) {
            for (int shift = 0; shift < 9; shift++) {
                NetPlumber x = Boards.laid(3, 3, true, movedOn(tiles[board], shift));
                laysAre("moved on by " + shift, x, movedOn(due[board], shift));
            }
        }
    }

    /**
     * A locked corner and the two beside it are settled, which may lead on to the fourth cell of their
     * square or away from it: so that one must not be open to both, and all else stays possible.
     */
    private static void promise20HangTogetherOverACorner() {
        int[][] tiles = {{6, 3, 1, 3, 3, 1, 1, 1, 1}, {1, 3, 12, 1, 3, 3, 1, 1, 1}};
        int[][] due = {{1, 12, 5, 9, 7, 15, 10, 15, 15}, {5, 3, 1, 15, 14, 9, 15, 15, 10}};
        int[] corner = {0, 2};
        for (int board = 0; board < 2; board++) {
            for (int shift = 0; shift < 9; shift++) {
                NetPlumber x = Boards.laid(3, 3, true, movedOn(tiles[board], shift));
                int[] locks = new int[9];
                locks[corner[board]] = 1;
                locks = movedOn(locks, shift);
                for (int cell = 0; cell < 9; cell++) {
                    x.setLock(cell, locks[cell] == 1);
                }
                laysAre("a corner moved on by " + shift, x, movedOn(due[board], shift));
            }
        }
    }

    /** A ring board of 3 columns and 3 rows, moved on to the right and downwards. */
    private static int[] movedOn(int[] cells, int shift) {
        int[] moved = new int[9];
        for (int cell = 0; cell < 9; cell++) {
            int row = (cell / 3 + shift / 3) % 3;
            int column = (cell % 3 + shift % 3) % 3;
            moved[row * 3 + column] = cells[cell];
        }
        return moved;
    }

    /** "over settled joints of cells other than that": a settled way through the cell strikes nothing. */
    private static void promise20NotOverTheCellItself() {
        NetPlumber x = Boards.laid(2, 2, false, 2, 12, 2, 9);
        for (int cell = 0; cell < 4; cell++) {
            x.setLock(cell, true);
        }
        laysAre("a path, all locked", x, 1, 1, 1, 1);
        laysAre("a comb", Boards.laid(3, 2, false, 4, 4, 4, 3, 11, 9), 1, 1, 1, 1, 1, 1);
    }

    /** "settled if all lays left of both are open to each other": one that is closed is enough. */
    private static void promise20NotOverJointsThatMayBe() {
        laysAre("a mill below a row", Boards.millBelowRow(), 2, 1, 8, 6, 5, 12, 3, 1, 12, 3, 9, 9);
    }

    /** "A joint of two neighbours without a wall between them". */
    private static void promise20NotOverWalls() {
        NetPlumber x = Boards.laid(2, 2, false, 2, 12, 2, 9);
        x.setWall(0, DOWN, true);
        laysAre("a path beside a wall", x, 1, 1, 1, 1);
        NetPlumber y = Boards.laid(4, 3, false, 4, 3, 3, 8, 12, 11, 15, 12, 2, 8, 12, 1);
        y.setLock(5, true);
        y.setWall(1, RIGHT, true);
        laysAre("a way round and a wall", y, 8, 4, 2, 1, 8, 1, 1, 1, 8, 4, 2, 1);
    }

    /** The lays are those of the tiles as they are: a turn, an undo, a wall changes them. */
    private static void promise20LaysFollowEachChange() {
        NetPlumber x = Boards.laid(2, 2, false, 2, 12, 2, 9);
        laysAre("as laid", x, 1, 1, 1, 1);
        x.turn(1);
        laysAre("after a turn", x, 1, 8, 1, 1);
        x.undo();
        laysAre("after an undo", x, 1, 1, 1, 1);
        x.redo();
        laysAre("after a redo", x, 1, 8, 1, 1);
        x.setWall(0, RIGHT, true);
        laysAre("after a wall", x, 0, 0, 0, 0);
        x.setWall(0, RIGHT, false);
        laysAre("after it was taken away", x, 1, 8, 1, 1);
        x.setLock(1, true);
        laysAre("after a lock", x, 0, 0, 0, 0);
        x.setLock(1, false);
        x.setTile(3, 0);
        laysAre("after a tile", x, 0, 0, 0, 0);
        x.begin(2, 2, false);
        laysAre("after begin", x, 1, 1, 1, 1);
        x.make(2, 2, false, 0);
        laysAre("after make", x, 1, 8, 4, 2);
    }

    /** "nothing from here on changes anything". */
    private static void promise20NothingIsChanged() {
        NetPlumber x = Boards.busy();
        NetPlumber y = Boards.busyRing();
        for (int round = 0; round < 2; round++) {
            for (int cell = 0; cell < 9; cell++) {
                x.lays(cell);
                y.lays(cell);
            }
        }
        Check.due("all as it was", Picture.of(Boards.busy()), () -> Picture.of(x));
        Check.due("all as it was on a ring board", Picture.of(Boards.busyRing()), () -> Picture.of(y));
    }
}
