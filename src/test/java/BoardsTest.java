/** Promises 1 to 7: a new object, begin, make, setTile, setWall, setLock, setSource. */
public final class BoardsTest {
    private static final int[] WRONG = {-1, 9, 16, 4096, Integer.MIN_VALUE, Integer.MAX_VALUE};

    private BoardsTest() {
    }

    public static void main(String[] args) {
        constants();
        promise1NewObject();
        promise2BeginSizes();
        promise2BeginClearsAll();
        promise3MakeByHand();
        promise3MakeArguments();
        promise3MakeIsSolvable();
        promise4SetTile();
        promise4SetTileForgetsMoves();
        promise5SetWall();
        promise5SetWallOnRing();
        promise6SetLock();
        promise7SetSource();
        Check.end();
    }

    private static void constants() {
        Check.due("NONE", -1, () -> NetPlumber.NONE);
        Check.due("UP", 0, () -> NetPlumber.UP);
        Check.due("RIGHT", 1, () -> NetPlumber.RIGHT);
        Check.due("DOWN", 2, () -> NetPlumber.DOWN);
        Check.due("LEFT", 3, () -> NetPlumber.LEFT);
    }

    private static void isClear(String what, NetPlumber x, int size) {
        Check.due(what + ": size", size, x::size);
        Check.due(what + ": moves", 0, x::moves);
        Check.dueState(what + ": undo", x::undo);
        Check.dueState(what + ": redo", x::redo);
        Check.due(what + ": watered", 1, x::watered);
        Check.due(what + ": isWatered(0)", true, () -> x.isWatered(0));
        Check.dueIndex(what + ": tile(size)", () -> x.tile(size));
        for (int cell = 0; cell < size; cell++) {
            int at = cell;
            Check.due(what + ": tile " + at, 0, () -> x.tile(at));
            Check.due(what + ": setLock " + at, false, () -> x.setLock(at, false));
            for (int side = 0; side < 4; side++) {
                int to = side;
                if (x.neighbour(at, to) != NetPlumber.NONE) {
                    Check.due(what + ": setWall " + at, false, () -> x.setWall(at, to, false));
                }
            }
        }
        Check.due(what + ": setSource", 0, () -> x.setSource(0));
    }

    private static void promise1NewObject() {
        NetPlumber x = new NetPlumber();
        isClear("new", x, 9);
        Check.due("new: below 0", 3, () -> x.neighbour(0, NetPlumber.DOWN));
        Check.due("new: right of 2", -1, () -> x.neighbour(2, NetPlumber.RIGHT));
        Check.due("new: above 1", -1, () -> x.neighbour(1, NetPlumber.UP));
        Check.due("new: below 8", -1, () -> x.neighbour(8, NetPlumber.DOWN));
        Check.due("new: left of 3", -1, () -> x.neighbour(3, NetPlumber.LEFT));
    }

    private static void promise2BeginSizes() {
        NetPlumber x = new NetPlumber();
        for (int width = -1; width <= 7; width++) {
            for (int height = -1; height <= 7; height++) {
                int w = width;
                int h = height;
                boolean inRange = w > 1 && w < 6 && h > 1 && h < 6;
                boolean plain = inRange && w * h < 17;
                boolean ring = inRange && w != 2 && h != 2 && w * h < 13;
                String name = "begin(" + w + ", " + h;
                String throwsIt = "throws.IllegalArgumentException";
                Check.due(name + ", false)", plain ? String.valueOf(w * h) : throwsIt, () -> x.begin(w, h, false));
                Check.due(name + ", true)", ring ? String.valueOf(w * h) : throwsIt, () -> x.begin(w, h, true));
                Check.due("make" + name, plain, () -> answers(() -> x.make(w, h, false, 5)));
                Check.due("make ring" + name, ring, () -> answers(() -> x.make(w, h, true, 5)));
            }
        }
        for (int wrong : WRONG) {
            Check.dueArgument("begin(" + wrong + ", 3)", () -> x.begin(wrong, 3, false));
            Check.dueArgument("begin(3, " + wrong + ")", () -> x.begin(3, wrong, true));
        }
        // 65536 times 65536 and 5 times 858993460 would be small numbers by Java's wrap-around
        Check.dueArgument("begin(65536, 65536)", () -> x.begin(65536, 65536, false));
        Check.dueArgument("begin(5, 858993460)", () -> x.begin(5, 858993460, false));
    }

    private static boolean answers(Check.Call call) {
        return !Check.answerOf(call).startsWith("throws");
    }

    private static NetPlumber used() {
        NetPlumber x = new NetPlumber();
        x.make(4, 4, false, 11);
        for (int cell = 0; cell < 16; cell++) {
            x.turn(cell);
            x.setLock(cell, true);
            x.setWall(cell, cell % 4 == 3 ? NetPlumber.LEFT : NetPlumber.RIGHT, true);
            x.setWall(cell, cell < 12 ? NetPlumber.DOWN : NetPlumber.UP, true);
        }
        x.undo();
        x.setSource(15);
        return x;
    }

    private static void promise2BeginClearsAll() {
        NetPlumber x = used();
        Check.due("begin(4, 4)", 16, () -> x.begin(4, 4, false));
        isClear("begin over a used board", x, 16);
        NetPlumber y = used();
        Check.due("begin(4, 3, ring)", 12, () -> y.begin(4, 3, true));
        isClear("begin a ring board over a used one", y, 12);
        NetPlumber z = used();
        int tile = z.tile(7);
        Check.dueArgument("begin(4, 5)", () -> z.begin(4, 5, false));
        Check.dueArgument("make(4, 4, false, 65536)", () -> z.make(4, 4, false, 65536));
        Check.due("size as it was", 16, z::size);
        Check.due("moves as they were", 15, z::moves);
        Check.due("tile as it was", tile, () -> z.tile(7));
        Check.due("lock as it was", true, () -> z.setLock(7, true));
        Check.due("wall as it was", true, () -> z.setWall(0, NetPlumber.RIGHT, true));
        Check.due("source as it was", 15, () -> z.setSource(3));
        Check.due("redo as it was", 16, z::redo);
    }

    private static void tilesAre(String what, NetPlumber x, int... tiles) {
        for (int cell = 0; cell < tiles.length; cell++) {
            int at = cell;
            Check.due(what + ": tile " + at, tiles[at], () -> x.tile(at));
        }
    }

    private static void promise3MakeByHand() {
        // the pairs 0-1, 0-2, 1-3, 2-3; drawn are 3517, 13598, 38003: the places 3 and 1 are
        // exchanged, 2 and 2, 1 and 1; so 0-1, 2-3, 1-3 are joined. Drawn are 1612, 28281, 60170,
        // 14671: the tiles 2, 12, 2, 9 are turned by 0, 1, 2, 3 quarters.
        NetPlumber x = used();
        Check.due("make(2, 2, false, 0)", 2, () -> x.make(2, 2, false, 0));
        tilesAre("made by 0", x, 2, 9, 8, 12);
        Check.due("moves", 0, x::moves);
        Check.dueState("undo", x::undo);
        Check.due("source", 0, () -> x.setSource(0));
        Check.due("lock", false, () -> x.setLock(0, false));
        Check.due("wall", false, () -> x.setWall(0, NetPlumber.RIGHT, false));
        Check.due("solutions", 1, x::solutions);
        Check.due("first(0)", 0, () -> x.first(0));
        Check.due("first(1)", 3, () -> x.first(1));
        Check.due("first(2)", 2, () -> x.first(2));
        Check.due("first(3)", 1, () -> x.first(3));
        Check.due("fewestTurns", 6, x::fewestTurns);
    }

    private static void promise3MakeArguments() {
        NetPlumber x = new NetPlumber();
        for (int wrong : new int[] {-1, 65536, 131072, Integer.MIN_VALUE, Integer.MAX_VALUE}) {
            Check.dueArgument("make(3, 3, false, " + wrong + ")", () -> x.make(3, 3, false, wrong));
        }
        Check.dueArgument("make(6, 2, false, 1)", () -> x.make(6, 2, false, 1));
        Check.dueArgument("make(2, 1, false, 1)", () -> x.make(2, 1, false, 1));
        Check.dueArgument("make(5, 3, true, 1)", () -> x.make(5, 3, true, 1));
        Check.due("size", 9, x::size);
        for (int number : new int[] {0, 1, 32768, 65535}) {
            Reference reference = new Reference(1);
            Check.due("make by " + number, reference.make(5, 3, false, number),
                    () -> x.make(5, 3, false, number));
            for (int cell = 0; cell < 15; cell++) {
                int at = cell;
                Check.due("tile made by " + number, reference.tile(at), () -> x.tile(at));
            }
        }
    }

    private static void promise3MakeIsSolvable() {
        NetPlumber x = new NetPlumber();
        for (int number = 3; number < 65536; number += 997) {
            x.make(4, 3, number % 2 == 0, number);
            int open = 0;
            for (int cell = 0; cell < 12; cell++) {
                open += Integer.bitCount(x.tile(cell));
            }
            int sides = open;
            Check.due("open sides made by " + number, 22, () -> sides);
            Check.due("solvable, made by " + number, true, () -> x.solutions() > 0);
        }
    }

    private static void promise4SetTile() {
        NetPlumber x = new NetPlumber();
        for (int sides = 0; sides <= 15; sides++) {
            int now = sides;
            Check.due("setTile(8, " + now + ")", now == 0 ? 0 : now - 1, () -> x.setTile(8, now));
            Check.due("tile(8)", now, () -> x.tile(8));
        }
        Check.due("tile(7)", 0, () -> x.tile(7));
        for (int wrong : WRONG) {
            Check.dueIndex("setTile(" + wrong + ", 1)", () -> x.setTile(wrong, 1));
            Check.dueIndex("setTile(" + wrong + ", -1)", () -> x.setTile(wrong, -1));
        }
        for (int wrong : new int[] {-1, 16, 17, Integer.MIN_VALUE, Integer.MAX_VALUE}) {
            Check.dueArgument("setTile(8, " + wrong + ")", () -> x.setTile(8, wrong));
        }
        Check.due("tile(8) as it was", 15, () -> x.tile(8));
        x.setLock(8, true);
        Check.due("setTile of a locked cell", 15, () -> x.setTile(8, 1));
        Check.due("still locked", true, () -> x.setLock(8, true));
        x.setWall(8, NetPlumber.UP, true);
        x.setTile(8, 1);
        Check.due("wall still there", true, () -> x.setWall(8, NetPlumber.UP, true));
    }

    private static void promise4SetTileForgetsMoves() {
        NetPlumber x = new NetPlumber();
        x.setTile(0, 1);
        x.turn(0);
        x.turn(0);
        x.undo();
        Check.dueArgument("setTile(1, 16)", () -> x.setTile(1, 16));
        Check.dueIndex("setTile(9, 0)", () -> x.setTile(9, 0));
        Check.due("moves, none forgotten", 1, x::moves);
        Check.due("setTile(5, 0)", 0, () -> x.setTile(5, 0));
        Check.due("moves, all forgotten", 0, x::moves);
        Check.dueState("undo, all forgotten", x::undo);
        Check.dueState("redo, all forgotten", x::redo);
        Check.due("tile(0) as turned", 2, () -> x.tile(0));
    }

    private static void promise5SetWall() {
        NetPlumber x = new NetPlumber();
        x.setTile(0, 2);
        x.setTile(1, 8);
        Check.due("joined", true, () -> x.isJoined(0, NetPlumber.RIGHT));
        Check.due("setWall anew", false, () -> x.setWall(0, NetPlumber.RIGHT, true));
        Check.due("not joined", false, () -> x.isJoined(0, NetPlumber.RIGHT));
        Check.due("neighbour behind a wall", 1, () -> x.neighbour(0, NetPlumber.RIGHT));
        Check.due("setWall again", true, () -> x.setWall(0, NetPlumber.RIGHT, true));
        Check.due("setWall from the other cell", true, () -> x.setWall(1, NetPlumber.LEFT, false));
        Check.due("setWall away again", false, () -> x.setWall(0, NetPlumber.RIGHT, false));
        Check.due("joined again", true, () -> x.isJoined(1, NetPlumber.LEFT));
        Check.due("setWall down", false, () -> x.setWall(4, NetPlumber.DOWN, true));
        Check.due("no wall up", false, () -> x.setWall(4, NetPlumber.UP, false));
        Check.due("setWall from below", true, () -> x.setWall(7, NetPlumber.UP, true));
        Check.dueState("setWall at the border", () -> x.setWall(0, NetPlumber.UP, true));
        Check.dueState("setWall at the border, away", () -> x.setWall(8, NetPlumber.RIGHT, false));
        Check.dueState("setWall at the right border", () -> x.setWall(2, NetPlumber.RIGHT, true));
        Check.dueState("setWall at the left border", () -> x.setWall(3, NetPlumber.LEFT, true));
        for (int wrong : WRONG) {
            Check.dueIndex("setWall(" + wrong + ", 0)", () -> x.setWall(wrong, NetPlumber.UP, true));
            Check.dueIndex("setWall(0, " + wrong + ")", () -> x.setWall(0, wrong, true));
        }
        Check.dueIndex("setWall(4, 4)", () -> x.setWall(4, 4, true));
        x.setLock(0, true);
        x.turn(1);
        Check.due("setWall keeps moves", true, () -> x.setWall(4, NetPlumber.DOWN, false) && x.moves() == 1);
    }

    private static void promise5SetWallOnRing() {
        NetPlumber x = new NetPlumber();
        x.begin(3, 4, true);
        Check.due("setWall round the row", false, () -> x.setWall(0, NetPlumber.LEFT, true));
        Check.due("setWall from the last of the row", true, () -> x.setWall(2, NetPlumber.RIGHT, true));
        Check.due("setWall round the column", false, () -> x.setWall(10, NetPlumber.DOWN, true));
        Check.due("setWall from the first of the column", true, () -> x.setWall(1, NetPlumber.UP, false));
        Check.due("setWall away", false, () -> x.setWall(10, NetPlumber.DOWN, false));
    }

    private static void promise6SetLock() {
        NetPlumber x = new NetPlumber();
        Check.due("setLock(4, true)", false, () -> x.setLock(4, true));
        Check.due("setLock(4, true) again", true, () -> x.setLock(4, true));
        Check.due("setLock(5, false)", false, () -> x.setLock(5, false));
        Check.dueState("turn of a locked cell", () -> x.turn(4));
        Check.due("setLock(4, false)", true, () -> x.setLock(4, false));
        Check.due("setLock(4, false) again", false, () -> x.setLock(4, false));
        Check.due("turn of an unlocked cell", 0, () -> x.turn(4));
        for (int wrong : WRONG) {
            Check.dueIndex("setLock(" + wrong + ")", () -> x.setLock(wrong, true));
        }
        // a number by 32 greater has the same bit in a shifted int
        Check.dueIndex("setLock(36)", () -> x.setLock(36, true));
        Check.due("no cell was locked", false, () -> x.setLock(4, false));
    }

    private static void promise7SetSource() {
        NetPlumber x = new NetPlumber();
        Check.due("setSource(8)", 0, () -> x.setSource(8));
        for (int wrong : WRONG) {
            Check.dueIndex("setSource(" + wrong + ")", () -> x.setSource(wrong));
        }
        Check.due("isWatered(8)", true, () -> x.isWatered(8));
        Check.due("isWatered(0)", false, () -> x.isWatered(0));
        Check.due("setSource(3)", 8, () -> x.setSource(3));
        x.setTile(3, 2);
        Check.due("setTile keeps the source", 3, () -> x.setSource(3));
        x.begin(2, 2, false);
        Check.due("setSource after begin", 0, () -> x.setSource(1));
        x.make(2, 2, false, 1);
        Check.due("setSource after make", 0, () -> x.setSource(1));
    }
}
