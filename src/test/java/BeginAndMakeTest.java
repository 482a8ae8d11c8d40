/** Promises 1 to 3: a new object, begin, make; and the sentences on boards that are made. */
public final class BeginAndMakeTest {
    private static final String REFUSED = "throws.IllegalArgumentException";

    private BeginAndMakeTest() {
    }

    public static void main(String[] args) {
        constants();
        promise1BoardOfThreeByThree();
        promise1NoRingBoard();
        promise1AsBeginMakesIt();
        promise1ObjectsDoNotShare();
        promise2AllSizes();
        promise2LeastAndMostWidthAndHeight();
        promise2MostCells();
        promise2RingLeastAndMost();
        promise2FarNumbers();
        promise2ReturnsHowManyCells();
        promise2ClosedTiles();
        promise2NoWallsAndLocks();
        promise2SourceIsFirstCell();
        promise2NoMoveWasMade();
        promise2AfterLargerAndSmallerBoards();
        promise2RingAfterBoardAndBoardAfterRing();
        promise3AllSizes();
        promise3LeastAndMostNumber();
        promise3FarNumbers();
        promise3BeginsAsBeginDoes();
        promise3GivenNumberIsNotUsed();
        promise3RemainderBy65536();
        promise3PairsAndMixing();
        promise3TurnsOfCells();
        promise3RingBoards();
        promise3ReturnsCellsOpenAtOneSide();
        promise3JoinedToOneTree();
        promise3SameNumberSameBoard();
        Check.end();
    }

    /** "The constants: NONE = -1", "UP = 0, RIGHT = 1, DOWN = 2, LEFT = 3". */
    private static void constants() {
        Check.due("NONE", -1, () -> NetPlumber.NONE);
        Check.due("UP", 0, () -> NetPlumber.UP);
        Check.due("RIGHT", 1, () -> NetPlumber.RIGHT);
        Check.due("DOWN", 2, () -> NetPlumber.DOWN);
        Check.due("LEFT", 3, () -> NetPlumber.LEFT);
    }

    /** "A board of 3 columns and 3 rows". */
    private static void promise1BoardOfThreeByThree() {
        NetPlumber x = new NetPlumber();
        Check.due("new: size", 9, x::size);
        Check.due("new: below 0", 3, () -> x.neighbour(0, NetPlumber.DOWN));
        Check.due("new: above 8", 5, () -> x.neighbour(8, NetPlumber.UP));
        Check.due("new: the last cell", 0, () -> x.tile(8));
        Check.dueIndex("new: no cell 9", () -> x.tile(9));
    }

    /** "not a ring board": there is a border at each side. */
    private static void promise1NoRingBoard() {
        NetPlumber x = new NetPlumber();
        Check.due("new: above 1", -1, () -> x.neighbour(1, NetPlumber.UP));
        Check.due("new: right of 5", -1, () -> x.neighbour(5, NetPlumber.RIGHT));
        Check.due("new: below 7", -1, () -> x.neighbour(7, NetPlumber.DOWN));
        Check.due("new: left of 3", -1, () -> x.neighbour(3, NetPlumber.LEFT));
    }

    /** "as begin() makes it". */
    private static void promise1AsBeginMakesIt() {
        NetPlumber begun = Boards.full();
        begun.begin(3, 3, false);
        String due = Picture.of(begun);
        Check.due("new: as begun", due, () -> Picture.of(new NetPlumber()));
        NetPlumber x = new NetPlumber();
        Check.dueState("new: undo", x::undo);
        Check.dueState("new: redo", x::redo);
        Check.due("new: moves", 0, x::moves);
        Check.due("new: source", 0, () -> x.setSource(0));
        for (int cell = 0; cell < 9; cell++) {
            int at = cell;
            Check.due("new: tile " + at, 0, () -> x.tile(at));
            Check.due("new: lock " + at, false, () -> x.setLock(at, false));
        }
    }

    /** What one object is told, another one does not know. */
    private static void promise1ObjectsDoNotShare() {
        NetPlumber x = new NetPlumber();
        NetPlumber y = Boards.full();
        Check.due("two objects: size", 9, x::size);
        Check.due("two objects: tile", 0, () -> x.tile(0));
        Check.due("two objects: lock", false, () -> x.setLock(0, true));
        Check.due("two objects: moves", 15, y::moves);
        Check.due("two objects: the other size", 16, y::size);
    }

    /** "if width or height is out of range, there would be more than 16 cells, or a ring board ..". */
    private static void promise2AllSizes() {
        for (int width = -1; width <= 7; width++) {
            for (int height = -1; height <= 7; height++) {
                int w = width;
                int h = height;
                boolean inRange = w > 1 && w < 6 && h > 1 && h < 6;
                boolean plain = inRange && w * h < 17;
                boolean ring = inRange && w != 2 && h != 2 && w * h < 13;
                String name = "(" + w + ", " + h;
                NetPlumber x = new NetPlumber();
                Check.due("begin" + name + ", false)", plain ? w * h : REFUSED, () -> x.begin(w, h, false));
                Check.due("begin" + name + ", true)", ring ? w * h : REFUSED, () -> x.begin(w, h, true));
            }
        }
    }

    /** "width: 2 to 5", "height: 2 to 5". */
    private static void promise2LeastAndMostWidthAndHeight() {
        NetPlumber x = new NetPlumber();
        Check.due("least of both", 4, () -> x.begin(2, 2, false));
        Check.due("most width", 10, () -> x.begin(5, 2, false));
        Check.due("most height", 10, () -> x.begin(2, 5, false));
        Check.dueArgument("width too small", () -> x.begin(1, 2, false));
        Check.dueArgument("width 0", () -> x.begin(0, 2, false));
        Check.dueArgument("width too large, few cells", () -> x.begin(6, 2, false));
        Check.dueArgument("height too small", () -> x.begin(2, 1, false));
        Check.dueArgument("height 0", () -> x.begin(2, 0, false));
        Check.dueArgument("height too large, few cells", () -> x.begin(2, 6, false));
        Check.dueArgument("both too small", () -> x.begin(1, 1, false));
        Check.dueArgument("width too large, 16 cells", () -> x.begin(8, 2, false));
        Check.dueArgument("height too large, 16 cells", () -> x.begin(2, 8, false));
        Check.dueArgument("both below 0, 4 cells", () -> x.begin(-2, -2, false));
    }

    /** "there would be more than 16 cells". */
    private static void promise2MostCells() {
        NetPlumber x = new NetPlumber();
        Check.due("16 cells", 16, () -> x.begin(4, 4, false));
        Check.due("the 16th cell", 0, () -> x.tile(15));
        Check.due("15 cells in rows of 5", 15, () -> x.begin(5, 3, false));
        Check.due("15 cells in rows of 3", 15, () -> x.begin(3, 5, false));
        Check.dueArgument("20 cells in rows of 5", () -> x.begin(5, 4, false));
        Check.dueArgument("20 cells in rows of 4", () -> x.begin(4, 5, false));
        Check.dueArgument("25 cells", () -> x.begin(5, 5, false));
    }

    /** "a ring board would have a width or height of 2, or more than 12 cells". */
    private static void promise2RingLeastAndMost() {
        NetPlumber x = new NetPlumber();
        Check.due("least ring board", 9, () -> x.begin(3, 3, true));
        Check.due("12 cells in rows of 4", 12, () -> x.begin(4, 3, true));
        Check.due("12 cells in rows of 3", 12, () -> x.begin(3, 4, true));
        Check.dueArgument("ring board of 16 cells", () -> x.begin(4, 4, true));
        Check.dueArgument("ring board of 15 cells, wide", () -> x.begin(5, 3, true));
        Check.dueArgument("ring board of 15 cells, high", () -> x.begin(3, 5, true));
        Check.dueArgument("ring board of width 2", () -> x.begin(2, 3, true));
        Check.dueArgument("ring board of height 2", () -> x.begin(3, 2, true));
        Check.dueArgument("ring board of width 2, height 4", () -> x.begin(2, 4, true));
        Check.dueArgument("ring board of width 4, height 2", () -> x.begin(4, 2, true));
        Check.dueArgument("ring board of width 2, height 5", () -> x.begin(2, 5, true));
        Check.dueArgument("ring board of width 5, height 2", () -> x.begin(5, 2, true));
        Check.dueArgument("ring board of both 2", () -> x.begin(2, 2, true));
        Check.dueArgument("ring board of width 6", () -> x.begin(6, 2, true));
        Check.dueArgument("ring board of width 1", () -> x.begin(1, 12, true));
    }

    /** Numbers whose product by wrap-around would be that of a board. */
    private static void promise2FarNumbers() {
        NetPlumber x = new NetPlumber();
        for (int far : Boards.FAR) {
            Check.dueArgument("begin(" + far + ", 3)", () -> x.begin(far, 3, false));
            Check.dueArgument("begin(3, " + far + ")", () -> x.begin(3, far, false));
            Check.dueArgument("ring: begin(" + far + ", 3)", () -> x.begin(far, 3, true));
            Check.dueArgument("ring: begin(4, " + far + ")", () -> x.begin(4, far, true));
        }
        Check.dueArgument("65536 times 65536 is 0", () -> x.begin(65536, 65536, false));
        Check.dueArgument("5 times 858993460 is 4", () -> x.begin(5, 858993460, false));
        Check.dueArgument("4 times 1073741827 is 12", () -> x.begin(4, 1073741827, true));
        Check.dueArgument("1073741827 times 4 is 12", () -> x.begin(1073741827, 4, true));
    }

    /** "Returns how many cells it has." */
    private static void promise2ReturnsHowManyCells() {
        for (int[] board : Boards.PLAIN) {
            NetPlumber x = new NetPlumber();
            int cells = board[0] * board[1];
            Check.due("begin returns", cells, () -> x.begin(board[0], board[1], false));
            Check.due("the last cell", 0, () -> x.tile(cells - 1));
            Check.dueIndex("none behind the last cell", () -> x.tile(cells));
        }
        for (int[] board : Boards.RINGS) {
            NetPlumber x = new NetPlumber();
            int cells = board[0] * board[1];
            Check.due("begin a ring returns", cells, () -> x.begin(board[0], board[1], true));
            Check.due("the last cell of the ring", 0, () -> x.tile(cells - 1));
            Check.dueIndex("none behind the last cell of the ring", () -> x.tile(cells));
        }
    }

    /** "Begins a board with closed tiles, that is 0". */
    private static void promise2ClosedTiles() {
        NetPlumber x = Boards.full();
        x.begin(4, 4, false);
        for (int cell = 0; cell < 16; cell++) {
            int at = cell;
            Check.due("begun: tile " + at, 0, () -> x.tile(at));
        }
        Check.due("begun: loose", 0, x::loose);
    }

    /** "without walls and locks". */
    private static void promise2NoWallsAndLocks() {
        NetPlumber x = Boards.full();
        x.begin(4, 4, false);
        for (int cell = 0; cell < 16; cell++) {
            int at = cell;
            for (int side = 0; side < 4; side++) {
                int to = side;
                if (x.neighbour(at, to) != NetPlumber.NONE) {
                    Check.due("begun: wall " + at + " " + to, false, () -> x.setWall(at, to, false));
                }
            }
            Check.due("begun: turn " + at, 0, () -> x.turn(at));
            Check.due("begun: lock " + at, false, () -> x.setLock(at, false));
        }
    }

    /** "the source is the cell 0". */
    private static void promise2SourceIsFirstCell() {
        NetPlumber x = Boards.full();
        x.begin(4, 4, false);
        Check.due("begun: isWatered(0)", true, () -> x.isWatered(0));
        Check.due("begun: isWatered(15)", false, () -> x.isWatered(15));
        Check.due("begun: source", 0, () -> x.setSource(5));
        // the source before is no cell of this board
        NetPlumber y = Boards.full();
        y.begin(2, 2, false);
        Check.due("begun smaller: watered", 1, y::watered);
        Check.due("begun smaller: source", 0, () -> y.setSource(3));
    }

    /** "no move was made". */
    private static void promise2NoMoveWasMade() {
        NetPlumber x = Boards.full();
        x.begin(4, 4, false);
        Check.due("begun: moves", 0, x::moves);
        Check.dueState("begun: undo", x::undo);
        Check.dueState("begun: redo", x::redo);
        x.turn(3);
        Check.due("begun: moves after a turn", 1, x::moves);
        x.begin(4, 4, false);
        Check.due("begun again: moves", 0, x::moves);
        Check.dueState("begun again: undo", x::undo);
    }

    /** A board that was before leaves nothing, not even where a smaller one was in between. */
    private static void promise2AfterLargerAndSmallerBoards() {
        NetPlumber begun = new NetPlumber();
        begun.begin(4, 4, false);
        String due = Picture.of(begun);
        NetPlumber x = Boards.full();
        x.begin(2, 2, false);
        Check.due("smaller: size", 4, x::size);
        Check.dueIndex("smaller: no cell 4", () -> x.tile(4));
        Check.dueIndex("smaller: no cell 15", () -> x.setLock(15, true));
        Check.due("smaller: right of 1", -1, () -> x.neighbour(1, NetPlumber.RIGHT));
        Check.due("smaller: below 0", 2, () -> x.neighbour(0, NetPlumber.DOWN));
        Check.due("larger again", 16, () -> x.begin(4, 4, false));
        Check.due("larger again: all", due, () -> Picture.of(x));
    }

    /** Neither the neighbours nor the walls round a ring board stay, and none are missing on it. */
    private static void promise2RingAfterBoardAndBoardAfterRing() {
        NetPlumber begun = new NetPlumber();
        begun.begin(4, 3, true);
        String dueRing = Picture.of(begun);
        begun.begin(4, 3, false);
        NetPlumber x = Boards.full();
        x.begin(4, 3, true);
        Check.due("a ring board after a board", dueRing, () -> Picture.of(x));
        NetPlumber plain = new NetPlumber();
        plain.begin(4, 3, false);
        String duePlain = Picture.of(plain);
        NetPlumber y = Boards.busyRing();
        y.begin(4, 3, false);
        Check.due("a board after a ring board", duePlain, () -> Picture.of(y));
    }

    /** "if width or height is out of range, there would be more than 16 cells, a ring board .." */
    private static void promise3AllSizes() {
        for (int width = -1; width <= 7; width++) {
            for (int height = -1; height <= 7; height++) {
                int w = width;
                int h = height;
                boolean inRange = w > 1 && w < 6 && h > 1 && h < 6;
                boolean plain = inRange && w * h < 17;
                boolean ring = inRange && w != 2 && h != 2 && w * h < 13;
                String name = "(" + w + ", " + h;
                NetPlumber x = new NetPlumber();
                NetPlumber y = new NetPlumber();
                Check.due("make" + name + ", false)", plain ? "made" : REFUSED, () -> made(x, w, h, false));
                Check.due("size of it", plain ? w * h : 9, x::size);
                Check.due("make" + name + ", true)", ring ? "made" : REFUSED, () -> made(y, w, h, true));
                Check.due("size of the ring", ring ? w * h : 9, y::size);
            }
        }
    }

    private static String made(NetPlumber x, int width, int height, boolean ring) {
        int ends = x.make(width, height, ring, 5);
        return ends >= 0 ? "made" : "fewer than no ends";
    }

    /** "number: 0 to 65535". */
    private static void promise3LeastAndMostNumber() {
        NetPlumber x = new NetPlumber();
        Check.due("the least number", 2, () -> x.make(2, 2, false, 0));
        Check.due("the greatest number", 2, () -> x.make(2, 2, false, 65535));
        Check.dueArgument("a number too small", () -> x.make(2, 2, false, -1));
        Check.dueArgument("a number too large", () -> x.make(2, 2, false, 65536));
        Check.due("the least number, ring", 4, () -> x.make(3, 3, true, 0));
        Check.dueArgument("a number too small, ring", () -> x.make(3, 3, true, -1));
        Check.dueArgument("a number too large, ring", () -> x.make(3, 3, true, 65536));
    }

    private static void promise3FarNumbers() {
        NetPlumber x = new NetPlumber();
        for (int far : Boards.FAR) {
            boolean inRange = far >= 0 && far <= 65535;
            if (!inRange) {
                Check.dueArgument("make(3, 3, false, " + far + ")", () -> x.make(3, 3, false, far));
            }
            Check.dueArgument("make(" + far + ", 3, false, 1)", () -> x.make(far, 3, false, 1));
            Check.dueArgument("make(3, " + far + ", true, 1)", () -> x.make(3, far, true, 1));
            Check.dueArgument("make(3, " + far + ", true, -1)", () -> x.make(3, far, true, -1));
        }
        Check.dueArgument("make(5, 858993460, false, 1)", () -> x.make(5, 858993460, false, 1));
        Check.due("size as it was", 9, x::size);
    }

    /** "Begins a board as begin() does". */
    private static void promise3BeginsAsBeginDoes() {
        NetPlumber fresh = new NetPlumber();
        fresh.make(4, 4, false, 4711);
        String due = Picture.of(fresh);
        NetPlumber x = Boards.full();
        x.make(4, 4, false, 4711);
        Check.due("made over a full board: all", due, () -> Picture.of(x));
        NetPlumber y = Boards.full();
        y.make(2, 2, false, 3);
        Check.due("made: moves", 0, y::moves);
        Check.dueState("made: undo", y::undo);
        Check.dueState("made: redo", y::redo);
        Check.due("made: source", 0, () -> y.setSource(3));
        for (int cell = 0; cell < 4; cell++) {
            int at = cell;
            Check.due("made: lock", false, () -> y.setLock(at, false));
        }
        Check.due("made: wall", false, () -> y.setWall(0, NetPlumber.RIGHT, false));
        Check.due("made: wall below", false, () -> y.setWall(1, NetPlumber.DOWN, false));
    }

    private static void madeAre(String what, int ends, NetPlumber x, int width, int height, boolean ring,
            int number, int... tiles) {
        Check.due(what + ": make", ends, () -> x.make(width, height, ring, number));
        for (int cell = 0; cell < tiles.length; cell++) {
            int at = cell;
            Check.due(what + ": tile " + at, tiles[at], () -> x.tile(at));
        }
    }

    /**
     * "the given one itself is not used": from 0 come 3517, 13598, 38003. The pairs are 0-1, 0-2, 1-3,
     * 2-3; the places 3 and 1 are exchanged, 2 and 2, 1 and 1; so 0-1, 2-3, 1-3 are joined. Then come
     * 1612, 28281, 60170, 14671: the tiles 2, 12, 2, 9 are turned by 0, 1, 2, 3 quarters.
     */
    private static void promise3GivenNumberIsNotUsed() {
        NetPlumber x = new NetPlumber();
        madeAre("made by 0", 2, x, 2, 2, false, 0, 2, 9, 8, 12);
        Check.due("made by 0: solutions", 1, x::solutions);
        Check.due("made by 0: first(0)", 0, () -> x.first(0));
        Check.due("made by 0: first(1)", 3, () -> x.first(1));
        Check.due("made by 0: first(2)", 2, () -> x.first(2));
        Check.due("made by 0: first(3)", 1, () -> x.first(3));
    }

    /**
     * "the remainder by 65536": from 65535 come 44360, 16293, 1062: the places 3 and 0 are exchanged,
     * 2 and 0, 1 and 0; the row is 0-2, 1-3, 2-3, 0-1, and its first three are joined. Then come 13083,
     * 35092, 13281, 9106: the tiles 4, 4, 3, 9 are turned by 3, 0, 1, 2 quarters.
     */
    private static void promise3RemainderBy65536() {
        madeAre("made by 65535", 2, new NetPlumber(), 2, 2, false, 65535, 2, 4, 6, 6);
    }

    /**
     * "cell by cell, for each first with its neighbour at the RIGHT, then with the one DOWN", "for k
     * from its last place down to 1": from 1 come 28210, 10903, 9408: the places 3 and 2 are exchanged,
     * 2 and 1, 1 and 0; the row is 2-3, 0-1, 0-2, 1-3. The tiles 6, 8, 3, 8 are turned by 1, 2, 3, 0.
     */
    private static void promise3PairsAndMixing() {
        madeAre("made by 1", 2, new NetPlumber(), 2, 2, false, 1, 12, 2, 9, 8);
        madeAre("made by 0, 16 cells", 5, new NetPlumber(), 4, 4, false, 0,
                2, 13, 10, 6, 6, 11, 9, 12, 1, 10, 12, 4, 2, 7, 10, 4);
        madeAre("made by 65535, 16 cells", 7, new NetPlumber(), 4, 4, false, 65535,
                2, 6, 13, 2, 9, 13, 6, 3, 1, 13, 8, 4, 1, 11, 7, 2);
        madeAre("made by 40000, 5 columns", 6, new NetPlumber(), 5, 3, false, 40000,
                8, 7, 14, 13, 3, 3, 13, 10, 5, 10, 1, 2, 4, 8, 1);
        madeAre("made by 65535, 5 rows", 6, new NetPlumber(), 3, 5, false, 65535,
                8, 1, 2, 7, 7, 7, 8, 6, 3, 9, 13, 8, 6, 10, 4);
        madeAre("made by 1, 2 columns", 3, new NetPlumber(), 2, 5, false, 1,
                1, 2, 5, 10, 12, 14, 6, 3, 12, 4);
        madeAre("made by 7, 2 rows", 4, new NetPlumber(), 5, 2, false, 7,
                2, 13, 2, 1, 12, 4, 14, 5, 10, 3);
    }

    /** "the tile of each cell, by rising numbers, is turned"; what is turned so is no move. */
    private static void promise3TurnsOfCells() {
        NetPlumber x = new NetPlumber();
        madeAre("made by 32768", 2, x, 2, 2, false, 32768, 2, 9, 8, 12);
        Check.due("made by 32768: moves", 0, x::moves);
        Check.dueState("made by 32768: undo", x::undo);
    }

    /** The pairs that lead round a ring board are in the row too. */
    private static void promise3RingBoards() {
        madeAre("ring made by 0", 4, new NetPlumber(), 3, 3, true, 0, 14, 4, 6, 1, 1, 9, 14, 3, 8);
        madeAre("ring made by 65535", 5, new NetPlumber(), 3, 4, true, 65535,
                12, 7, 5, 1, 8, 4, 10, 8, 14, 13, 8, 12);
        madeAre("ring made by 12345", 3, new NetPlumber(), 4, 3, true, 12345,
                2, 4, 10, 5, 12, 3, 9, 9, 11, 5, 2, 6);
    }

    /** "Returns how many cells are open at one side alone." */
    private static void promise3ReturnsCellsOpenAtOneSide() {
        for (int number = 100; number < 65536; number += 1310) {
            NetPlumber x = new NetPlumber();
            int ends = x.make(4, 4, false, number);
            int alone = 0;
            for (int cell = 0; cell < 16; cell++) {
                int sides = x.tile(cell);
                alone += sides == 1 || sides == 2 || sides == 4 || sides == 8 ? 1 : 0;
            }
            Check.due("ends made by " + number, alone, () -> ends);
        }
    }

    /** "each is joined unless one comes already from the one cell to the other": one tree. */
    private static void promise3JoinedToOneTree() {
        for (int number = 3; number < 65536; number += 997) {
            NetPlumber x = new NetPlumber();
            x.make(4, 3, number % 2 == 0, number);
            int open = 0;
            for (int cell = 0; cell < 12; cell++) {
                open += Integer.bitCount(x.tile(cell));
            }
            int sides = open;
            Check.due("open sides made by " + number, 22, () -> sides);
            Check.due("solvable, made by " + number, true, () -> x.solutions() > 0);
        }
    }

    private static void promise3SameNumberSameBoard() {
        NetPlumber x = new NetPlumber();
        madeAre("made once", 5, x, 4, 4, false, 0, 2, 13, 10, 6, 6, 11, 9, 12, 1, 10, 12, 4, 2, 7, 10, 4);
        x.make(4, 4, false, 1);
        madeAre("made again", 5, x, 4, 4, false, 0, 2, 13, 10, 6, 6, 11, 9, 12, 1, 10, 12, 4, 2, 7, 10, 4);
    }
}
