/** Promises 12 to 19: size, tile, neighbour, isJoined, loose, watered, isWatered, isSolved. */
public final class BoardAsItIsTest {
    private static final int[] WRONG_SIDES = {-1, 4, 5, 8, Integer.MIN_VALUE, Integer.MAX_VALUE};
    private static final int UP = NetPlumber.UP;
    private static final int RIGHT = NetPlumber.RIGHT;
    private static final int DOWN = NetPlumber.DOWN;
    private static final int LEFT = NetPlumber.LEFT;

    private BoardAsItIsTest() {
    }

    public static void main(String[] args) {
        promise12Size();
        promise12SizeAfterRefusedBoards();
        promise13TileAsLaidAndTurned();
        promise13FirstAndLastCell();
        promise13NoSuchCell();
        promise14RowByRow();
        promise14OppositeSides();
        promise14NoneAtTheBorder();
        promise14LastOfARowIsNotBesideTheNext();
        promise14RoundTheRing();
        promise14NoBorderOnRing();
        promise14WithWalls();
        promise14NoSuchCell();
        promise14NoSuchSide();
        promise15OpenToEachOther();
        promise15EachSide();
        promise15FalseAtTheBorder();
        promise15RoundTheRing();
        promise15AWallBetween();
        promise15NoSuchCell();
        promise15NoSuchSide();
        promise16NoneAndAll();
        promise16AtTheBorder();
        promise16AtAClosedNeighbour();
        promise16AtAWall();
        promise16RoundTheRing();
        promise17SourceAlone();
        promise17All();
        promise17OpenFromOneSideAlone();
        promise17NotOverWalls();
        promise17RoundTheRing();
        promise17ALongWay();
        promise17FromTheSource();
        promise18NoSuchCell();
        promise19ATree();
        promise19ALooseSide();
        promise19NotFromEachToEach();
        promise19TooManyPairs();
        promise19Walls();
        promise19OnRing();
        promise19WhateverSourceAndLocks();
        Check.end();
    }

    private static NetPlumber square(int... tiles) {
        return Boards.laid(2, 2, false, tiles);
    }

    private static NetPlumber ringOf(int... tiles) {
        return Boards.laid(3, 3, true, tiles);
    }

    /** "Returns how many cells the board has." */
    private static void promise12Size() {
        Check.due("size of a new object", 9, () -> new NetPlumber().size());
        for (int[] board : Boards.PLAIN) {
            Check.due("size", board[0] * board[1], () -> Boards.laid(board[0], board[1], false).size());
        }
        for (int[] board : Boards.RINGS) {
            NetPlumber x = new NetPlumber();
            x.make(board[0], board[1], true, 9);
            Check.due("size of a ring board", board[0] * board[1], x::size);
        }
    }

    private static void promise12SizeAfterRefusedBoards() {
        NetPlumber x = Boards.laid(5, 2, false);
        Check.dueArgument("begin(5, 5)", () -> x.begin(5, 5, false));
        Check.dueArgument("begin(4, 4, ring)", () -> x.begin(4, 4, true));
        Check.dueArgument("make(2, 2, 65536)", () -> x.make(2, 2, false, 65536));
        Check.due("size as it was", 10, x::size);
    }

    /** "Returns the open sides of the tile of a cell." */
    private static void promise13TileAsLaidAndTurned() {
        NetPlumber x = square(1, 15, 0, 8);
        Check.due("tile(0)", 1, () -> x.tile(0));
        Check.due("tile(1), all open", 15, () -> x.tile(1));
        Check.due("tile(2), all closed", 0, () -> x.tile(2));
        x.turn(3);
        Check.due("tile(3) turned from LEFT to UP", 1, () -> x.tile(3));
    }

    private static void promise13FirstAndLastCell() {
        NetPlumber x = Boards.laid(4, 4, false, 3, 0, 0, 0, 0, 0, 0, 0, 0, 0, 0, 0, 0, 0, 0, 12);
        Check.due("tile of the first cell", 3, () -> x.tile(0));
        Check.due("tile of the last cell", 12, () -> x.tile(15));
    }

    private static void promise13NoSuchCell() {
        Boards.noSuchCell("tile", (x, cell) -> x.tile(cell));
    }

    private static void neighboursAre(NetPlumber x, int cell, int... due) {
        for (int side = 0; side < 4; side++) {
            int at = side;
            Check.due("neighbour(" + cell + ", " + at + ")", due[at], () -> x.neighbour(cell, at));
        }
    }

    /** "numbered row by row from 0 on, so the cell below another one has a number greater by the width". */
    private static void promise14RowByRow() {
        for (int[] board : Boards.PLAIN) {
            int width = board[0];
            NetPlumber x = Boards.laid(width, board[1], false);
            for (int cell = 0; cell < width * board[1]; cell++) {
                int at = cell;
                if (at + width < width * board[1]) {
                    Check.due("below " + at, at + width, () -> x.neighbour(at, DOWN));
                }
                if (at % width < width - 1) {
                    Check.due("right of " + at, at + 1, () -> x.neighbour(at, RIGHT));
                }
            }
        }
        neighboursAre(Boards.laid(5, 3, false), 7, 2, 8, 12, 6);
        neighboursAre(Boards.laid(4, 4, false), 5, 1, 6, 9, 4);
    }

    /** "opposite to each side is the one two further on": DOWN to UP, LEFT to RIGHT too. */
    private static void promise14OppositeSides() {
        NetPlumber x = Boards.laid(4, 4, false);
        neighboursAre(x, 10, 6, 11, 14, 9);
        Check.due("down and up", 10, () -> x.neighbour(x.neighbour(10, DOWN), UP));
        Check.due("up and down", 10, () -> x.neighbour(x.neighbour(10, UP), DOWN));
        Check.due("left and right", 10, () -> x.neighbour(x.neighbour(10, LEFT), RIGHT));
        Check.due("right and left", 10, () -> x.neighbour(x.neighbour(10, RIGHT), LEFT));
    }

    /** "At the border of the board there is none"; "NONE at the border". */
    private static void promise14NoneAtTheBorder() {
        for (int[] board : Boards.PLAIN) {
            int width = board[0];
            int cells = width * board[1];
            NetPlumber x = Boards.laid(width, board[1], false);
            for (int cell = 0; cell < cells; cell++) {
                int at = cell;
                Check.due("none above " + at, at < width, () -> x.neighbour(at, UP) == NetPlumber.NONE);
                Check.due("none right of " + at, at % width == width - 1,
                        () -> x.neighbour(at, RIGHT) == NetPlumber.NONE);
                Check.due("none below " + at, at >= cells - width,
                        () -> x.neighbour(at, DOWN) == NetPlumber.NONE);
                Check.due("none left of " + at, at % width == 0,
                        () -> x.neighbour(at, LEFT) == NetPlumber.NONE);
            }
        }
    }

    private static void promise14LastOfARowIsNotBesideTheNext() {
        NetPlumber x = Boards.laid(5, 3, false);
        neighboursAre(x, 4, -1, -1, 9, 3);
        neighboursAre(x, 5, 0, 6, 10, -1);
        neighboursAre(x, 9, 4, -1, 14, 8);
        neighboursAre(x, 10, 5, 11, -1, -1);
    }

    /** "the neighbour of the last cell of a row to the right is the first one of the row, and so on". */
    private static void promise14RoundTheRing() {
        NetPlumber x = Boards.laid(4, 3, true);
        neighboursAre(x, 0, 8, 1, 4, 3);
        neighboursAre(x, 3, 11, 0, 7, 2);
        neighboursAre(x, 7, 3, 4, 11, 6);
        neighboursAre(x, 5, 1, 6, 9, 4);
        neighboursAre(x, 8, 4, 9, 0, 11);
        neighboursAre(x, 11, 7, 8, 3, 10);
        NetPlumber y = Boards.laid(3, 4, true);
        neighboursAre(y, 0, 9, 1, 3, 2);
        neighboursAre(y, 2, 11, 0, 5, 1);
        neighboursAre(y, 9, 6, 10, 0, 11);
        neighboursAre(y, 11, 8, 9, 2, 10);
        NetPlumber z = Boards.laid(3, 3, true);
        neighboursAre(z, 0, 6, 1, 3, 2);
        neighboursAre(z, 4, 1, 5, 7, 3);
        neighboursAre(z, 8, 5, 6, 2, 7);
    }

    private static void promise14NoBorderOnRing() {
        for (int[] board : Boards.RINGS) {
            int width = board[0];
            int height = board[1];
            NetPlumber x = Boards.laid(width, height, true);
            for (int cell = 0; cell < width * height; cell++) {
                int row = cell / width;
                int column = cell % width;
                neighboursAre(x, cell, (row + height - 1) % height * width + column,
                        row * width + (column + 1) % width, (row + 1) % height * width + column,
                        row * width + (column + width - 1) % width);
            }
        }
    }

    /** A wall takes no neighbour away. */
    private static void promise14WithWalls() {
        NetPlumber x = Boards.laid(5, 3, false);
        for (int side = 0; side < 4; side++) {
            x.setWall(7, side, true);
        }
        neighboursAre(x, 7, 2, 8, 12, 6);
        Check.due("from above", 7, () -> x.neighbour(2, DOWN));
        NetPlumber ring = ringOf();
        ring.setWall(0, LEFT, true);
        neighboursAre(ring, 0, 6, 1, 3, 2);
    }

    private static void promise14NoSuchCell() {
        Boards.noSuchCell("neighbour", (x, cell) -> x.neighbour(cell, UP));
        Boards.noSuchCell("neighbour at no side", (x, cell) -> x.neighbour(cell, 4));
    }

    /** "Throws IndexOutOfBoundsException if there is no such cell or side": the side. */
    private static void promise14NoSuchSide() {
        NetPlumber x = square();
        NetPlumber ring = ringOf();
        for (int wrong : WRONG_SIDES) {
            for (int cell = 0; cell < 4; cell++) {
                int at = cell;
                Check.dueIndex("neighbour(" + at + ", " + wrong + ")", () -> x.neighbour(at, wrong));
                Check.dueIndex("ring: neighbour(" + at + ", " + wrong + ")", () -> ring.neighbour(at, wrong));
            }
        }
    }

    /** "if there is no wall between them, and both are open to each other". */
    private static void promise15OpenToEachOther() {
        NetPlumber x = square(6, 8, 0, 1);
        Check.due("both open", true, () -> x.isJoined(0, RIGHT));
        Check.due("both open, from the other", true, () -> x.isJoined(1, LEFT));
        Check.due("the one open alone", false, () -> x.isJoined(0, DOWN));
        Check.due("the other open alone", false, () -> x.isJoined(2, UP));
        Check.due("from the one that is closed", false, () -> x.isJoined(1, DOWN));
        Check.due("from the one that is open", false, () -> x.isJoined(3, UP));
        Check.due("both closed", false, () -> x.isJoined(2, RIGHT));
    }

    private static void promise15EachSide() {
        for (int sides = 0; sides <= 15; sides++) {
            NetPlumber x = Boards.laid(3, 3, false, 15, 15, 15, 15, sides, 15, 15, 15, 15);
            for (int side = 0; side < 4; side++) {
                int at = side;
                boolean due = (sides >> side) % 2 == 1;
                int beside = x.neighbour(4, side);
                int back = (side + 2) % 4;
                Check.due("joined of " + sides + " at " + at, due, () -> x.isJoined(4, at));
                Check.due("joined back of " + sides + " at " + at, due, () -> x.isJoined(beside, back));
            }
        }
    }

    /** "false at the border". */
    private static void promise15FalseAtTheBorder() {
        NetPlumber x = square(15, 15, 15, 15);
        Check.due("above 0", false, () -> x.isJoined(0, UP));
        Check.due("left of 0", false, () -> x.isJoined(0, LEFT));
        Check.due("above 1", false, () -> x.isJoined(1, UP));
        Check.due("right of 1", false, () -> x.isJoined(1, RIGHT));
        Check.due("below 2", false, () -> x.isJoined(2, DOWN));
        Check.due("left of 2", false, () -> x.isJoined(2, LEFT));
        Check.due("below 3", false, () -> x.isJoined(3, DOWN));
        Check.due("right of 3", false, () -> x.isJoined(3, RIGHT));
        Check.due("inside", true, () -> x.isJoined(3, LEFT));
    }

    private static void promise15RoundTheRing() {
        NetPlumber x = ringOf(9, 0, 2, 0, 0, 0, 4);
        Check.due("round the row", true, () -> x.isJoined(0, LEFT));
        Check.due("round the row, from the last", true, () -> x.isJoined(2, RIGHT));
        Check.due("round the column", true, () -> x.isJoined(0, UP));
        Check.due("round the column, from the last", true, () -> x.isJoined(6, DOWN));
        Check.due("not with the next row", false, () -> x.isJoined(3, LEFT));
        x.setTile(2, 8);
        Check.due("round the row, closed there", false, () -> x.isJoined(0, LEFT));
    }

    private static void promise15AWallBetween() {
        NetPlumber x = Boards.laid(3, 3, false, 15, 15, 15, 15, 15, 15, 15, 15, 15);
        x.setWall(4, UP, true);
        Check.due("a wall above", false, () -> x.isJoined(4, UP));
        Check.due("the same from above", false, () -> x.isJoined(1, DOWN));
        Check.due("no wall at the right", true, () -> x.isJoined(4, RIGHT));
        x.setWall(4, UP, false);
        Check.due("the wall is gone", true, () -> x.isJoined(1, DOWN));
        NetPlumber y = ringOf(15, 15, 15, 15, 15, 15, 15, 15, 15);
        y.setWall(6, DOWN, true);
        Check.due("a wall round the column", false, () -> y.isJoined(0, UP));
        Check.due("none in the column", true, () -> y.isJoined(0, DOWN));
    }

    private static void promise15NoSuchCell() {
        Boards.noSuchCell("isJoined", (x, cell) -> x.isJoined(cell, RIGHT));
        Boards.noSuchCell("isJoined at no side", (x, cell) -> x.isJoined(cell, -1));
    }

    private static void promise15NoSuchSide() {
        NetPlumber x = square(15, 15, 15, 15);
        NetPlumber ring = ringOf(15, 15, 15, 15, 15, 15, 15, 15, 15);
        for (int wrong : WRONG_SIDES) {
            for (int cell = 0; cell < 4; cell++) {
                int at = cell;
                Check.dueIndex("isJoined(" + at + ", " + wrong + ")", () -> x.isJoined(at, wrong));
                Check.dueIndex("ring: isJoined(" + at + ", " + wrong + ")", () -> ring.isJoined(at, wrong));
            }
        }
    }

    /** "Returns how many open sides of all cells are loose": none, and as many as there can be. */
    private static void promise16NoneAndAll() {
        Check.due("all closed", 0, () -> new NetPlumber().loose());
        NetPlumber x = Boards.full();
        for (int cell = 0; cell < 16; cell++) {
            x.setTile(cell, 15);
        }
        Check.due("all open behind walls", 64, x::loose);
        Check.due("a tree", 0, square(2, 12, 2, 9)::loose);
    }

    private static void promise16AtTheBorder() {
        Check.due("at a corner", 2, square(9)::loose);
        NetPlumber x = Boards.laid(4, 4, false);
        for (int cell = 0; cell < 16; cell++) {
            x.setTile(cell, 15);
        }
        Check.due("all round the border", 16, x::loose);
        Check.due("at the bottom right", 2, square(0, 0, 0, 6)::loose);
    }

    private static void promise16AtAClosedNeighbour() {
        Check.due("beside closed tiles", 2, square(6)::loose);
        Check.due("beside one that is open elsewhere", 2, square(2, 4)::loose);
        Check.due("beside one that is open to it", 0, square(2, 8)::loose);
        Check.due("one of two", 1, square(6, 8)::loose);
    }

    private static void promise16AtAWall() {
        NetPlumber x = square(2, 8);
        x.setWall(0, RIGHT, true);
        Check.due("both sides of a wall", 2, x::loose);
        x.setTile(1, 0);
        Check.due("one side of a wall", 1, x::loose);
        x.setWall(0, RIGHT, false);
        Check.due("no wall, closed there", 1, x::loose);
    }

    private static void promise16RoundTheRing() {
        NetPlumber x = ringOf(15, 15, 15, 15, 15, 15, 15, 15, 15);
        Check.due("a ring board all open", 0, x::loose);
        x.setWall(8, RIGHT, true);
        Check.due("and a wall", 2, x::loose);
        x.setTile(0, 14);
        Check.due("and one closed upwards", 3, x::loose);
    }

    private static void wateredAre(NetPlumber x, int... cells) {
        int count = cells.length;
        Check.due("watered", count, x::watered);
        for (int cell = 0; cell < x.size(); cell++) {
            int at = cell;
            boolean due = false;
            for (int watered : cells) {
                due |= watered == at;
            }
            Check.due("isWatered(" + at + ")", due, () -> x.isWatered(at));
        }
    }

    /** "The watered cells are the source and all to which one comes": the source is, if closed too. */
    private static void promise17SourceAlone() {
        wateredAre(new NetPlumber(), 0);
        NetPlumber x = Boards.laid(4, 4, false);
        x.setSource(15);
        wateredAre(x, 15);
    }

    private static void promise17All() {
        NetPlumber x = Boards.laid(4, 4, false, 15, 15, 15, 15, 15, 15, 15, 15, 15, 15, 15, 15, 15, 15, 15, 15);
        Check.due("all watered", 16, x::watered);
        x.setSource(15);
        wateredAre(x, 0, 1, 2, 3, 4, 5, 6, 7, 8, 9, 10, 11, 12, 13, 14, 15);
        wateredAre(square(2, 12, 2, 9), 0, 1, 2, 3);
    }

    private static void promise17OpenFromOneSideAlone() {
        wateredAre(square(6, 4, 2, 0), 0);
        wateredAre(square(2, 12, 2, 0), 0, 1);
    }

    private static void promise17NotOverWalls() {
        NetPlumber x = square(2, 12, 2, 9);
        x.setWall(1, DOWN, true);
        wateredAre(x, 0, 1);
        x.setSource(2);
        wateredAre(x, 2, 3);
        x.turn(2);
        wateredAre(x, 2);
    }

    private static void promise17RoundTheRing() {
        NetPlumber x = ringOf(9, 0, 2, 0, 0, 0, 4);
        wateredAre(x, 0, 2, 6);
        x.setWall(0, LEFT, true);
        wateredAre(x, 0, 6);
        x.setSource(2);
        wateredAre(x, 2);
    }

    /** One comes to a cell over 15 others, and from greater numbers to lesser ones. */
    private static void promise17ALongWay() {
        NetPlumber x = Boards.laid(4, 4, false, 2, 10, 10, 12, 6, 10, 10, 9, 3, 10, 10, 12, 2, 10, 10, 9);
        x.setSource(12);
        Check.due("the long way", 16, x::watered);
        Check.due("its other end", true, () -> x.isWatered(0));
        x.setTile(6, 6);
        wateredAre(x, 8, 9, 10, 11, 12, 13, 14, 15, 4, 5);
    }

    private static void promise17FromTheSource() {
        NetPlumber x = square(2, 8, 2, 8);
        wateredAre(x, 0, 1);
        x.setSource(3);
        wateredAre(x, 2, 3);
        x.setSource(1);
        wateredAre(x, 0, 1);
    }

    private static void promise18NoSuchCell() {
        Boards.noSuchCell("isWatered", (x, cell) -> x.isWatered(cell));
        NetPlumber x = new NetPlumber();
        Check.dueIndex("by 32 greater than the source", () -> x.isWatered(32));
        Check.dueIndex("by 32 less than the source", () -> x.isWatered(-32));
    }

    /** "joined to one tree". */
    private static void promise19ATree() {
        Check.due("a path", true, square(2, 12, 2, 9)::isSolved);
        Check.due("the least board, all closed", false, square()::isSolved);
        Check.due("a new object", false, () -> new NetPlumber().isSolved());
        NetPlumber x = Boards.mill();
        int[] lays = {1, 2, 2, 1, 0, 3, 0, 0, 3};
        for (int cell = 0; cell < 9; cell++) {
            Check.due("a mill not solved yet", false, x::isSolved);
            for (int k = 0; k < lays[cell]; k++) {
                x.turn(cell);
            }
        }
        Check.due("a mill solved", true, x::isSolved);
    }

    /** "if no open side is loose": all else holds. */
    private static void promise19ALooseSide() {
        Check.due("loose at the border", false, square(3, 12, 2, 9)::isSolved);
        Check.due("loose to a closed neighbour", false, square(6, 12, 2, 9)::isSolved);
        NetPlumber x = square(6, 12, 3, 9);
        x.setWall(0, DOWN, true);
        Check.due("loose at a wall", false, x::isSolved);
        Check.due("all are joined there", 4, x::watered);
    }

    /** "one comes from each cell to each other one": no side is loose, and the pairs are as many as due. */
    private static void promise19NotFromEachToEach() {
        NetPlumber x = Boards.laid(3, 2, false, 6, 12, 4, 3, 9, 1);
        Check.due("a circle and a pair: loose", 0, x::loose);
        Check.due("a circle and a pair", false, x::isSolved);
        NetPlumber y = Boards.laid(3, 2, false, 4, 6, 12, 1, 3, 9);
        Check.due("a pair and a circle", false, y::isSolved);
        Check.due("two pairs", false, square(2, 8, 2, 8)::isSolved);
        Check.due("a closed cell beside a path", false, square(2, 12, 0, 1)::isSolved);
    }

    /** "the number of pairs of neighbours that are joined is that of the cells less 1": all else holds. */
    private static void promise19TooManyPairs() {
        NetPlumber x = square(6, 12, 3, 9);
        Check.due("a circle: loose", 0, x::loose);
        Check.due("a circle: watered", 4, x::watered);
        Check.due("a circle", false, x::isSolved);
        NetPlumber y = Boards.laid(3, 2, false, 6, 14, 12, 3, 11, 9);
        Check.due("two circles", false, y::isSolved);
        Check.due("two circles: watered", 6, y::watered);
    }

    private static void promise19Walls() {
        NetPlumber x = square(2, 12, 2, 9);
        x.setWall(0, DOWN, true);
        Check.due("a wall beside the tree", true, x::isSolved);
        x.setWall(0, RIGHT, true);
        Check.due("a wall in the tree", false, x::isSolved);
        x.setWall(0, RIGHT, false);
        Check.due("the wall taken away", true, x::isSolved);
    }

    /** Over the border, and circles that close only round the ring board. */
    private static void promise19OnRing() {
        // down the first column by way of the border, and from each of its cells to both sides
        NetPlumber x = ringOf(15, 8, 2, 11, 8, 2, 14, 8, 2);
        Check.due("a tree round the border", true, x::isSolved);
        x.setTile(3, 15);
        x.setTile(6, 15);
        Check.due("a circle round the column: loose", 0, x::loose);
        Check.due("a circle round the column: watered", 9, x::watered);
        Check.due("a circle round the column", false, x::isSolved);
        // three pairs go round the first row, five join the others: eight, as many as a tree has
        NetPlumber y = ringOf(10, 10, 10, 2, 14, 8, 2, 11, 8);
        Check.due("a circle round the row and a tree: loose", 0, y::loose);
        Check.due("a circle round the row and a tree", false, y::isSolved);
    }

    private static void promise19WhateverSourceAndLocks() {
        NetPlumber x = square(2, 12, 2, 9);
        x.setSource(3);
        x.setLock(1, true);
        x.turn(0);
        Check.due("turned away", false, x::isSolved);
        x.undo();
        Check.due("solved from another source, with a lock", true, x::isSolved);
    }
}
