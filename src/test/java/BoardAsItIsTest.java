/** Promises 12 to 19: size, tile, neighbour, isJoined, loose, watered, isWatered, isSolved. */
public final class BoardAsItIsTest {
    private static final int[] WRONG_CELLS = {-1, 4, 16, Integer.MIN_VALUE, Integer.MAX_VALUE};
    private static final int[] WRONG_SIDES = {-1, 4, Integer.MIN_VALUE, Integer.MAX_VALUE};

    private BoardAsItIsTest() {
    }

    public static void main(String[] args) {
        promise12Size();
        promise13Tile();
        promise14NeighbourOnBoard();
        promise14NeighbourOnRing();
        promise15IsJoined();
        promise15IsJoinedOnRing();
        promise16Loose();
        promise17And18Water();
        promise17And18WaterOnRing();
        promise19IsSolved();
        promise19IsSolvedOnRing();
        Check.end();
    }

    private static NetPlumber square(int... tiles) {
        NetPlumber x = new NetPlumber();
        x.begin(2, 2, false);
        for (int cell = 0; cell < tiles.length; cell++) {
            x.setTile(cell, tiles[cell]);
        }
        return x;
    }

    private static void promise12Size() {
        NetPlumber x = new NetPlumber();
        Check.due("size", 9, x::size);
        x.begin(5, 2, false);
        Check.due("size", 10, x::size);
        x.make(3, 4, true, 9);
        Check.due("size", 12, x::size);
        x.begin(4, 4, false);
        Check.due("size", 16, x::size);
    }

    private static void promise13Tile() {
        NetPlumber x = square(1, 2, 4, 8);
        Check.due("tile(0)", 1, () -> x.tile(0));
        Check.due("tile(3)", 8, () -> x.tile(3));
        x.turn(3);
        Check.due("tile(3) turned", 1, () -> x.tile(3));
        for (int wrong : WRONG_CELLS) {
            Check.dueIndex("tile(" + wrong + ")", () -> x.tile(wrong));
        }
    }

    private static void neighboursAre(NetPlumber x, int cell, int... due) {
        for (int side = 0; side < 4; side++) {
            int at = side;
            Check.due("neighbour(" + cell + ", " + at + ")", due[at], () -> x.neighbour(cell, at));
        }
    }

    private static void promise14NeighbourOnBoard() {
        NetPlumber x = new NetPlumber();
        x.begin(5, 3, false);
        neighboursAre(x, 0, -1, 1, 5, -1);
        neighboursAre(x, 4, -1, -1, 9, 3);
        neighboursAre(x, 5, 0, 6, 10, -1);
        neighboursAre(x, 7, 2, 8, 12, 6);
        neighboursAre(x, 14, 9, -1, -1, 13);
        x.setWall(7, NetPlumber.UP, true);
        neighboursAre(x, 7, 2, 8, 12, 6);
        NetPlumber y = square();
        neighboursAre(y, 0, -1, 1, 2, -1);
        neighboursAre(y, 3, 1, -1, -1, 2);
        for (int wrong : WRONG_CELLS) {
            Check.dueIndex("neighbour(" + wrong + ", 0)", () -> y.neighbour(wrong, 0));
        }
        for (int wrong : WRONG_SIDES) {
            Check.dueIndex("neighbour(0, " + wrong + ")", () -> y.neighbour(0, wrong));
        }
    }

    private static void promise14NeighbourOnRing() {
        NetPlumber x = new NetPlumber();
        x.begin(4, 3, true);
        neighboursAre(x, 0, 8, 1, 4, 3);
        neighboursAre(x, 3, 11, 0, 7, 2);
        neighboursAre(x, 5, 1, 6, 9, 4);
        neighboursAre(x, 8, 4, 9, 0, 11);
        neighboursAre(x, 11, 7, 8, 3, 10);
        x.begin(3, 4, true);
        neighboursAre(x, 0, 9, 1, 3, 2);
        neighboursAre(x, 11, 8, 9, 2, 10);
    }

    private static void promise15IsJoined() {
        NetPlumber x = square(6, 8, 0, 0);
        Check.due("joined", true, () -> x.isJoined(0, NetPlumber.RIGHT));
        Check.due("joined from the other", true, () -> x.isJoined(1, NetPlumber.LEFT));
        Check.due("one of the two open", false, () -> x.isJoined(0, NetPlumber.DOWN));
        Check.due("the other of the two open", false, () -> x.isJoined(2, NetPlumber.UP));
        Check.due("both closed", false, () -> x.isJoined(2, NetPlumber.RIGHT));
        x.setTile(0, 15);
        Check.due("open at the border", false, () -> x.isJoined(0, NetPlumber.UP));
        Check.due("open at the left border", false, () -> x.isJoined(0, NetPlumber.LEFT));
        x.setWall(1, NetPlumber.LEFT, true);
        Check.due("a wall between", false, () -> x.isJoined(0, NetPlumber.RIGHT));
        for (int wrong : WRONG_CELLS) {
            Check.dueIndex("isJoined(" + wrong + ", 1)", () -> x.isJoined(wrong, 1));
        }
        for (int wrong : WRONG_SIDES) {
            Check.dueIndex("isJoined(1, " + wrong + ")", () -> x.isJoined(1, wrong));
        }
    }

    private static void promise15IsJoinedOnRing() {
        NetPlumber x = new NetPlumber();
        x.begin(3, 3, true);
        x.setTile(0, 9);
        x.setTile(2, 2);
        x.setTile(6, 4);
        Check.due("joined round the row", true, () -> x.isJoined(0, NetPlumber.LEFT));
        Check.due("joined round the row, from 2", true, () -> x.isJoined(2, NetPlumber.RIGHT));
        Check.due("joined round the column", true, () -> x.isJoined(6, NetPlumber.DOWN));
        x.setWall(6, NetPlumber.DOWN, true);
        Check.due("walled round the column", false, () -> x.isJoined(0, NetPlumber.UP));
    }

    private static void promise16Loose() {
        NetPlumber x = square();
        Check.due("all closed", 0, x::loose);
        x.setTile(0, 15);
        Check.due("one open", 4, x::loose);
        x.setTile(1, 15);
        Check.due("two open and joined", 6, x::loose);
        x.setWall(0, NetPlumber.RIGHT, true);
        Check.due("two open and a wall", 8, x::loose);
        NetPlumber y = new NetPlumber();
        y.begin(3, 3, true);
        for (int cell = 0; cell < 9; cell++) {
            y.setTile(cell, 15);
        }
        Check.due("a ring board all open", 0, y::loose);
        y.setWall(8, NetPlumber.RIGHT, true);
        Check.due("and a wall", 2, y::loose);
        y.setTile(0, 14);
        Check.due("and one closed", 3, y::loose);
    }

    private static void wateredAre(NetPlumber x, int... cells) {
        int count = cells.length;
        Check.due("watered", count, x::watered);
        for (int cell = 0; cell < x.size(); cell++) {
            int at = cell;
            boolean due = false;
            for (int watered : cells) {
                due |= watered == at;
            }
            Check.due("isWatered(" + at + ")", due, () -> x.isWatered(at));
        }
    }

    private static void promise17And18Water() {
        NetPlumber x = square(2, 12, 2, 9);
        wateredAre(x, 0, 1, 2, 3);
        x.setWall(1, NetPlumber.DOWN, true);
        wateredAre(x, 0, 1);
        x.setSource(2);
        wateredAre(x, 2, 3);
        x.turn(2);
        wateredAre(x, 2);
        x.setSource(3);
        wateredAre(x, 3);
        for (int wrong : WRONG_CELLS) {
            Check.dueIndex("isWatered(" + wrong + ")", () -> x.isWatered(wrong));
        }
        NetPlumber y = new NetPlumber();
        y.begin(4, 4, false);
        for (int cell = 0; cell < 16; cell++) {
            y.setTile(cell, 15);
        }
        y.setSource(15);
        Check.due("all watered", 16, y::watered);
        // a long way: the rows to and fro, from the last cell to the first one
        int[] way = {6, 10, 10, 12, 3, 10, 10, 9, 6, 10, 10, 12, 2, 10, 10, 9};
        int[] back = {2, 10, 10, 12, 6, 10, 10, 9, 3, 10, 10, 12, 2, 10, 10, 9};
        for (int cell = 0; cell < 16; cell++) {
            y.setTile(cell, back[cell]);
        }
        Check.due("the long way", 16, y::watered);
        Check.due("isWatered(0)", true, () -> y.isWatered(0));
        y.setTile(6, way[0]);
        wateredAre(y, 8, 9, 10, 11, 12, 13, 14, 15, 4, 5);
    }

    private static void promise17And18WaterOnRing() {
        NetPlumber x = new NetPlumber();
        x.begin(3, 3, true);
        x.setTile(0, 9);
        x.setTile(2, 2);
        x.setTile(6, 4);
        wateredAre(x, 0, 2, 6);
        x.setWall(0, NetPlumber.LEFT, true);
        wateredAre(x, 0, 6);
    }

    private static void promise19IsSolved() {
        Check.due("a tree", true, square(2, 12, 2, 9)::isSolved);
        Check.due("all closed", false, square()::isSolved);
        Check.due("a circle", false, square(6, 12, 3, 9)::isSolved);
        Check.due("two parts", false, square(2, 8, 2, 8)::isSolved);
        Check.due("a tree and a loose side", false, square(3, 12, 2, 9)::isSolved);
        Check.due("a loose side inside", false, square(6, 12, 2, 9)::isSolved);
        NetPlumber walled = square(2, 12, 2, 9);
        walled.setWall(0, NetPlumber.DOWN, true);
        Check.due("a wall beside the tree", true, walled::isSolved);
        walled.setWall(0, NetPlumber.RIGHT, true);
        Check.due("a wall in the tree", false, walled::isSolved);
        NetPlumber source = square(2, 12, 2, 9);
        source.setSource(3);
        Check.due("from another source", true, source::isSolved);
        // 3 joined pairs among 5 cells of 6, a circle of 4 and a pair: 5 joined pairs as a tree has
        NetPlumber x = new NetPlumber();
        x.begin(3, 2, false);
        int[] tiles = {6, 12, 4, 3, 9, 1};
        for (int cell = 0; cell < 6; cell++) {
            x.setTile(cell, tiles[cell]);
        }
        Check.due("a circle and a pair", false, x::isSolved);
        Check.due("nothing loose there", 0, x::loose);
    }

    private static void promise19IsSolvedOnRing() {
        NetPlumber x = new NetPlumber();
        x.begin(3, 3, true);
        // down the first column by way of the border, and to the left of each of its cells
        int[] tiles = {13, 8, 2, 9, 8, 2, 12, 8, 2};
        for (int cell = 0; cell < 9; cell++) {
            x.setTile(cell, tiles[cell]);
        }
        x.setTile(0, 1 + 4 + 2 + 8);
        x.setTile(3, 1 + 2 + 8);
        x.setTile(6, 4 + 2 + 8);
        Check.due("a tree round the border", true, x::isSolved);
        x.setTile(3, 1 + 2 + 8 + 4);
        x.setTile(6, 4 + 2 + 8 + 1);
        Check.due("a circle round the column", false, x::isSolved);
    }
}
