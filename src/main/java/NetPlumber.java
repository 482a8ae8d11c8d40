import java.util.Arrays;

/** A puzzle of turned pipes. README.md says how it is used, the document what each call answers. */
public final class NetPlumber {
    public static final int NONE = -1;
    public static final int UP = 0, RIGHT = 1, DOWN = 2, LEFT = 3;

    private static final int SIDES = 4;
    private static final int ALL_OPEN = 15;
    private static final int MOST_WIDTH = 5;
    private static final int MOST_HEIGHT = 5;
    private static final int MOST_CELLS = 16;

    private final Board board = new Board();
    private final History history = new History();
    private final Maker maker = new Maker(board);
    private final Sieve sieve = new Sieve(board);
    private final Search search = new Search(board, sieve);
    private final Sweep sweep = new Sweep(board);

    public NetPlumber() {
        board.clear(3, 3, false);
    }

    // ---- boards

    public int begin(int width, int height, boolean ring) throws IllegalArgumentException {
        requireBoard(width, height, ring);
        startBoard(width, height, ring);
        return board.count();
    }

    public int make(int width, int height, boolean ring, int number) throws IllegalArgumentException {
        requireBoard(width, height, ring);
        if (number < 0 || number >= Maker.NUMBERS) {
            throw new IllegalArgumentException("the number is 0 to 65535");
        }
        startBoard(width, height, ring);
        maker.fillBoard(number);
        return board.countEnds();
    }

    public int setTile(int cell, int sides) throws IndexOutOfBoundsException, IllegalArgumentException {
        requireCell(cell);
        if (sides < 0 || sides > ALL_OPEN) {
            throw new IllegalArgumentException("the open sides are 0 to 15");
        }
        int before = board.sidesOf(cell);
        board.lay(cell, sides);
        history.forget();
        return before;
    }

    public boolean setWall(int cell, int side, boolean wall)
            throws IndexOutOfBoundsException, IllegalStateException {
        requireCell(cell);
        requireSide(side);
        if (board.beside(cell, side) == NONE) {
            throw new IllegalStateException("there is no neighbour at this side");
        }
        boolean before = board.across(cell, side) == NONE;
        board.putWall(cell, side, wall);
        return before;
    }

    public boolean setLock(int cell, boolean locked) throws IndexOutOfBoundsException {
        requireCell(cell);
        boolean before = board.hasLock(cell);
        board.putLock(cell, locked);
        return before;
    }

    public int setSource(int cell) throws IndexOutOfBoundsException {
        requireCell(cell);
        int before = board.source();
        board.putSource(cell);
        return before;
    }

    // ---- moves

    public int turn(int cell) throws IndexOutOfBoundsException, IllegalStateException {
        requireCell(cell);
        if (board.hasLock(cell)) {
            throw new IllegalStateException("the cell is locked");
        }
        if (history.isFull()) {
            throw new IllegalStateException("an object is used for 512 calls at most");
        }
        board.spin(cell, 1);
        history.note(cell);
        return board.sidesOf(cell);
    }

    public int undo() throws IllegalStateException {
        int cell = history.stepBack();
        if (cell == NONE) {
            throw new IllegalStateException("there is no move to undo");
        }
        board.spin(cell, SIDES - 1);
        return history.done();
    }

    public int redo() throws IllegalStateException {
        int cell = history.stepOn();
        if (cell == NONE) {
            throw new IllegalStateException("there is no move to do again");
        }
        board.spin(cell, 1);
        return history.done();
    }

    public int moves() {
        return history.done();
    }

    // ---- the board as it is

    public int size() {
        return board.count();
    }

    public int tile(int cell) throws IndexOutOfBoundsException {
        requireCell(cell);
        return board.sidesOf(cell);
    }

    public int neighbour(int cell, int side) throws IndexOutOfBoundsException {
        requireCell(cell);
        requireSide(side);
        return board.beside(cell, side);
    }

    public boolean isJoined(int cell, int side) throws IndexOutOfBoundsException {
        requireCell(cell);
        requireSide(side);
        return board.joins(cell, side);
    }

    public int loose() {
        return board.countOpen() - board.countJoined();
    }

    public int watered() {
        return Integer.bitCount(board.reachedFrom(board.source()));
    }

    public boolean isWatered(int cell) throws IndexOutOfBoundsException {
        requireCell(cell);
        return holds(board.reachedFrom(board.source()), cell);
    }

    public boolean isSolved() {
        int joined = board.countJoined();
        return joined == board.countOpen()
                && joined == 2 * (board.count() - 1)
                && board.reachedFrom(0) == board.allCells();
    }

    // ---- lays and solutions; nothing from here on changes anything

    public int lays(int cell) throws IndexOutOfBoundsException {
        requireCell(cell);
        sieve.sift();
        return sieve.leftAt(cell);
    }

    public int solutions() {
        sieve.sift();
        return search.countAll();
    }

    public int solutionsBySweep() {
        return sweep.countAll();
    }

    public int first(int cell) throws IndexOutOfBoundsException, IllegalStateException {
        requireCell(cell);
        sieve.sift();
        if (search.countAll() == 0) {
            throw new IllegalStateException("there is no solution");
        }
        return search.firstAt(cell);
    }

    public int fewestTurns() throws IllegalStateException {
        sieve.sift();
        if (search.countAll() == 0) {
            throw new IllegalStateException("there is no solution");
        }
        return search.fewest();
    }

    // ---- what the calls share

    private void requireBoard(int width, int height, boolean ring) {
        if (!Board.allows(width, height, ring)) {
            throw new IllegalArgumentException("there is no board of this width and height");
        }
    }

    private void requireCell(int cell) {
        if (!board.has(cell)) {
            throw new IndexOutOfBoundsException("there is no such cell");
        }
    }

    private void requireSide(int side) {
        if (side < UP || side > LEFT) {
            throw new IndexOutOfBoundsException("there is no such side");
        }
    }

    private void startBoard(int width, int height, boolean ring) {
        board.clear(width, height, ring);
        history.forget();
    }

    /** Whether a set, told by its bits, holds a number. */
    private static boolean holds(int set, int number) {
        return (set >> number & 1) != 0;
    }

    /** The number at a place of a row, 0 if there is no such place. */
    private static int at(int[] row, int place) {
        return place >= 0 && place < row.length ? row[place] : 0;
    }

    private static int opposite(int side) {
        return side + 2 & 3;
    }

    /** The open sides of a tile after 0 to 3 quarter turns. */
    private static int turned(int sides, int quarters) {
        return (sides << quarters | sides >> SIDES - quarters) & ALL_OPEN;
    }

    /** The set of cells to which one comes over the links; from the one left out none goes on. */
    private static int spread(int[] links, int start, int leftOut) {
        int reached = 1 << start;
        boolean wider = true;
        // each round but the last one reaches another cell
        for (int round = 0; wider && round < links.length; round++) {
            int before = reached;
            for (int cell = 0; cell < links.length; cell++) {
                if (cell != leftOut && holds(reached, cell)) {
                    reached |= links[cell];
                }
            }
            wider = reached != before;
        }
        return reached;
    }

    /** The cells with their tiles, locks and neighbours, and the walls between them. */
    private static final class Board {
        private static final int MOST_RING_CELLS = 12;

        private final int[] tiles = new int[MOST_CELLS];
        private final int[] columns = new int[MOST_CELLS];
        /** The neighbours, four to a cell; in ways NONE stands also where there is a wall. */
        private final int[] nexts = new int[MOST_CELLS * SIDES];
        private final int[] ways = new int[MOST_CELLS * SIDES];
        private final int[] links = new int[MOST_CELLS];
        private int cells;
        private int locks;
        private int source;

        static boolean allows(int width, int height, boolean ring) {
            if (width < 2 || width > MOST_WIDTH || height < 2 || height > MOST_HEIGHT) {
                return false;
            }
            if (ring) {
                return width > 2 && height > 2 && width * height <= MOST_RING_CELLS;
            }
            return width * height <= MOST_CELLS;
        }

        void clear(int width, int height, boolean ring) {
            Arrays.fill(tiles, 0);
            Arrays.fill(nexts, NONE);
            cells = width * height;
            locks = 0;
            source = 0;
            int cell = 0;
            for (int row = 0; row < height; row++) {
                for (int column = 0; column < width && cell < MOST_CELLS; column++) {
                    columns[cell] = column;
                    if (ring || column < width - 1) {
                        link(cell, RIGHT, column < width - 1 ? cell + 1 : cell - column);
                    }
                    if (ring || row < height - 1) {
                        link(cell, DOWN, row < height - 1 ? cell + width : column);
                    }
                    cell++;
                }
            }
            System.arraycopy(nexts, 0, ways, 0, MOST_CELLS * SIDES);
        }

        private void link(int cell, int side, int other) {
            if (has(cell) && has(other)) {
                nexts[cell * SIDES + side] = other;
                nexts[other * SIDES + opposite(side)] = cell;
            }
        }

        boolean has(int cell) {
            return cell >= 0 && cell < cells && cell < MOST_CELLS;
        }

        int count() {
            return cells;
        }

        int allCells() {
            return (1 << cells) - 1;
        }

        int source() {
            return source;
        }

        void putSource(int cell) {
            source = cell;
        }

        int columnOf(int cell) {
            return at(columns, cell);
        }

        int sidesOf(int cell) {
            return at(tiles, cell);
        }

        void lay(int cell, int sides) {
            if (has(cell)) {
                tiles[cell] = sides;
            }
        }

        void spin(int cell, int quarters) {
            lay(cell, turned(sidesOf(cell), quarters));
        }

        boolean hasLock(int cell) {
            return holds(locks, cell);
        }

        void putLock(int cell, boolean locked) {
            locks = locked ? locks | 1 << cell : locks & ~(1 << cell);
        }

        /** The neighbour at a side, with or without a wall between. */
        int beside(int cell, int side) {
            int place = cell * SIDES + side;
            return place >= 0 && place < nexts.length ? nexts[place] : NONE;
        }

        /** The neighbour at a side if there is no wall between, NONE else. */
        int across(int cell, int side) {
            int place = cell * SIDES + side;
            return place >= 0 && place < ways.length ? ways[place] : NONE;
        }

        void putWall(int cell, int side, boolean wall) {
            int other = beside(cell, side);
            if (has(cell) && has(other)) {
                ways[cell * SIDES + side] = wall ? NONE : other;
                ways[other * SIDES + opposite(side)] = wall ? NONE : cell;
            }
        }

        boolean joins(int cell, int side) {
            int other = across(cell, side);
            return other != NONE && holds(at(tiles, cell), side) && holds(at(tiles, other), opposite(side));
        }

        int countOpen() {
            int open = 0;
            for (int cell = 0; cell < cells; cell++) {
                open += Integer.bitCount(sidesOf(cell));
            }
            return open;
        }

        /** How many open sides are joined: two for each joined pair. */
        int countJoined() {
            int joined = 0;
            for (int cell = 0; cell < cells; cell++) {
                joined += Integer.bitCount(joinedTo(cell));
            }
            return joined;
        }

        int countEnds() {
            int ends = 0;
            for (int cell = 0; cell < cells; cell++) {
                if (Integer.bitCount(sidesOf(cell)) == 1) {
                    ends++;
                }
            }
            return ends;
        }

        /** The set of cells to which one comes from a cell over joined cells. */
        int reachedFrom(int start) {
            for (int cell = 0; cell < MOST_CELLS; cell++) {
                links[cell] = joinedTo(cell);
            }
            return spread(links, start, NONE);
        }

        private int joinedTo(int cell) {
            int joined = 0;
            for (int side = UP; side <= LEFT; side++) {
                if (joins(cell, side)) {
                    joined |= 1 << across(cell, side);
                }
            }
            return joined;
        }

        /** The set of the lays of a cell before any is struck. */
        int ownLays(int cell) {
            int sides = sidesOf(cell);
            if (hasLock(cell) || turned(sides, 1) == sides) {
                return 1;
            }
            return turned(sides, 2) == sides ? 3 : 15;
        }
    }

    /** The moves in their order; those that are undone stand behind those that are not. */
    private static final class History {
        private static final int MOST_MOVES = 512;

        private final int[] cells = new int[MOST_MOVES];
        private int done;
        private int kept;

        void forget() {
            done = 0;
            kept = 0;
        }

        int done() {
            return done;
        }

        boolean isFull() {
            return done >= MOST_MOVES;
        }

        void note(int cell) {
            if (done >= 0 && done < MOST_MOVES) {
                cells[done] = cell;
                done++;
                kept = done;
            }
        }

        /** The cell of the latest move, which counts as undone then; NONE if there is none. */
        int stepBack() {
            if (done <= 0 || done > MOST_MOVES) {
                return NONE;
            }
            done--;
            return cells[done];
        }

        /** The cell of the move undone latest, which counts as done then; NONE if there is none. */
        int stepOn() {
            if (done < 0 || done >= kept || done >= MOST_MOVES) {
                return NONE;
            }
            done++;
            return cells[done - 1];
        }
    }

    /** Makes the tiles of a board by drawn numbers. */
    private static final class Maker {
        private static final int NUMBERS = 65536;
        private static final int MOST_PAIRS = 2 * MOST_CELLS;

        private final Board board;
        private final int[] pairCells = new int[MOST_PAIRS];
        private final int[] pairSides = new int[MOST_PAIRS];
        private int pairs;
        private int number;

        Maker(Board board) {
            this.board = board;
        }

        /** Joins and turns the tiles of a board that are all closed yet. */
        void fillBoard(int given) {
            number = given;
            listPairs();
            mixPairs();
            for (int pair = 0; pair < pairs; pair++) {
                joinPair(at(pairCells, pair), at(pairSides, pair));
            }
            for (int cell = 0; cell < board.count(); cell++) {
                board.spin(cell, draw() % SIDES);
            }
        }

        private int draw() {
            number = (24693 * number + 3517) % NUMBERS;
            return number;
        }

        private void listPairs() {
            pairs = 0;
            for (int cell = 0; cell < board.count(); cell++) {
                for (int side = RIGHT; side <= DOWN; side++) {
                    if (board.beside(cell, side) != NONE && pairs >= 0 && pairs < MOST_PAIRS) {
                        pairCells[pairs] = cell;
                        pairSides[pairs] = side;
                        pairs++;
                    }
                }
            }
        }

        private void mixPairs() {
            for (int place = pairs - 1; place > 0; place--) {
                int other = draw() % (place + 1);
                exchange(pairCells, place, other);
                exchange(pairSides, place, other);
            }
        }

        private static void exchange(int[] row, int place, int other) {
            if (place >= 0 && place < row.length && other >= 0 && other < row.length) {
                int held = row[place];
                row[place] = row[other];
                row[other] = held;
            }
        }

        private void joinPair(int cell, int side) {
            int other = board.beside(cell, side);
            if (other != NONE && !holds(board.reachedFrom(cell), other)) {
                board.lay(cell, board.sidesOf(cell) | 1 << side);
                board.lay(other, board.sidesOf(other) | 1 << opposite(side));
            }
        }
    }

    /** Strikes the lays that no solution has. */
    private static final class Sieve {
        private static final int MOST_LAYS = MOST_CELLS * SIDES;

        private final Board board;
        private final int[] left = new int[MOST_CELLS];
        /** The sides at which some lay left of a cell is open, and those at which all are. */
        private final int[] some = new int[MOST_CELLS];
        private final int[] all = new int[MOST_CELLS];
        /** The neighbours of a cell over settled joints. */
        private final int[] settled = new int[MOST_CELLS];

        Sieve(Board board) {
            this.board = board;
        }

        void sift() {
            for (int cell = 0; cell < MOST_CELLS; cell++) {
                left[cell] = board.has(cell) ? board.ownLays(cell) : 0;
            }
            boolean struck = true;
            // each round but the last one strikes a lay
            for (int round = 0; struck && round <= MOST_LAYS; round++) {
                struck = strikeOnce();
            }
        }

        int leftAt(int cell) {
            return at(left, cell);
        }

        private boolean strikeOnce() {
            for (int cell = 0; cell < MOST_CELLS; cell++) {
                some[cell] = openAtSome(cell);
                all[cell] = openAtAll(cell);
            }
            for (int cell = 0; cell < MOST_CELLS; cell++) {
                settled[cell] = settledWith(cell);
            }
            boolean struck = false;
            for (int cell = 0; cell < MOST_CELLS; cell++) {
                int kept = keptLays(cell);
                struck |= kept != left[cell];
                left[cell] = kept;
            }
            return struck;
        }

        private int openAtSome(int cell) {
            int open = 0;
            for (int lay = 0; lay < SIDES; lay++) {
                if (holds(leftAt(cell), lay)) {
                    open |= turned(board.sidesOf(cell), lay);
                }
            }
            return open;
        }

        private int openAtAll(int cell) {
            int open = ALL_OPEN;
            for (int lay = 0; lay < SIDES; lay++) {
                if (holds(leftAt(cell), lay)) {
                    open &= turned(board.sidesOf(cell), lay);
                }
            }
            return open;
        }

        private int settledWith(int cell) {
            int others = 0;
            for (int side = UP; side <= LEFT; side++) {
                int other = board.across(cell, side);
                if (other != NONE && holds(at(all, cell), side) && holds(at(all, other), opposite(side))) {
                    others |= 1 << other;
                }
            }
            return others;
        }

        private int keptLays(int cell) {
            int may = 0;
            int must = 0;
            for (int side = UP; side <= LEFT; side++) {
                int other = board.across(cell, side);
                if (other != NONE) {
                    may |= holds(at(some, other), opposite(side)) ? 1 << side : 0;
                    must |= holds(at(all, other), opposite(side)) ? 1 << side : 0;
                }
            }
            int kept = 0;
            for (int lay = 0; lay < SIDES; lay++) {
                int sides = turned(board.sidesOf(cell), lay);
                boolean fits = (sides & ~may) == 0 && (must & ~sides) == 0;
                if (holds(leftAt(cell), lay) && fits && !closesCircle(cell, sides)) {
                    kept |= 1 << lay;
                }
            }
            return kept;
        }

        /** Whether two neighbours to which the tile would be open hang together without its cell. */
        private boolean closesCircle(int cell, int sides) {
            int met = 0;
            for (int side = UP; side <= LEFT; side++) {
                int other = board.across(cell, side);
                if (other != NONE && holds(sides, side)) {
                    if (holds(met, other)) {
                        return true;
                    }
                    met |= spread(settled, other, cell);
                }
            }
            return false;
        }
    }

    /** Finds all solutions: tries the lays left of each cell by rising numbers, cell after cell. */
    private static final class Search {
        private final Board board;
        private final Sieve sieve;
        private final int[] tried = new int[MOST_CELLS];
        private final int[] tiles = new int[MOST_CELLS];
        /** A row for each number of cells tried: the set of cells joined with each of them. */
        private final int[][] parts = new int[MOST_CELLS + 1][MOST_CELLS];
        private final int[] firstLays = new int[MOST_CELLS];
        private int found;
        private int fewest;

        Search(Board board, Sieve sieve) {
            this.board = board;
            this.sieve = sieve;
        }

        /** How many solutions there are over the lays that the sieve has left. */
        int countAll() {
            found = 0;
            fewest = 0;
            tryCell(0, 0);
            return found;
        }

        int fewest() {
            return fewest;
        }

        int firstAt(int cell) {
            return at(firstLays, cell);
        }

        /** Tries the lays of a cell one by one; behind the last cell there is nothing to try. */
        private void tryCell(int cell, int turns) {
            if (!board.has(cell)) {
                noteSolution(cell, turns);
                return;
            }
            for (int lay = 0; lay < SIDES; lay++) {
                if (holds(sieve.leftAt(cell), lay)) {
                    tryLay(cell, lay, turns + lay);
                }
            }
        }

        private void tryLay(int cell, int lay, int turns) {
            if (!board.has(cell)) {
                return;
            }
            tried[cell] = lay;
            tiles[cell] = turned(board.sidesOf(cell), lay);
            if (fits(cell) && connect(cell)) {
                tryCell(cell + 1, turns);
            }
        }

        /** Whether the cell fits to those tried before; no lay left is open where there is no way. */
        private boolean fits(int cell) {
            for (int side = UP; side <= LEFT; side++) {
                int other = board.across(cell, side);
                boolean open = holds(at(tiles, cell), side);
                if (other != NONE && other < cell && open != holds(at(tiles, other), opposite(side))) {
                    return false;
                }
            }
            return true;
        }

        /** Fills the row of parts behind the cell; false if the cell closes a circle. */
        private boolean connect(int cell) {
            if (!board.has(cell)) {
                return false;
            }
            int[] row = parts[cell + 1];
            System.arraycopy(parts[cell], 0, row, 0, MOST_CELLS);
            row[cell] = 1 << cell;
            for (int side = UP; side <= LEFT; side++) {
                int other = board.across(cell, side);
                if (other != NONE && other < cell && holds(at(tiles, cell), side)) {
                    if (holds(row[cell], other)) {
                        return false;
                    }
                    merge(row, row[cell] | at(row, other));
                }
            }
            return true;
        }

        private static void merge(int[] row, int part) {
            for (int cell = 0; cell < row.length; cell++) {
                if (holds(part, cell)) {
                    row[cell] = part;
                }
            }
        }

        /** Tiles that fit and close no circle are a solution if all of them hang together. */
        private void noteSolution(int cells, int turns) {
            if (cells < 0 || cells > MOST_CELLS || parts[cells][0] != board.allCells()) {
                return;
            }
            if (found == 0) {
                System.arraycopy(tried, 0, firstLays, 0, MOST_CELLS);
                fewest = turns;
            }
            fewest = Math.min(fewest, turns);
            found++;
        }
    }

    /**
     * Counts the solutions by moving a border over the board, cell by cell. Each joint between a
     * cell behind the border and one before it has a place of the border: one for each column and
     * one for the row, and as many again for the joints that lead round a ring board. At a place
     * stands 0 if the joint is closed, else the number of the part behind the border that is open
     * there.
     */
    private static final class Sweep {
        private static final int STRAIGHT_PLACES = MOST_WIDTH + 1;
        private static final int PLACES = 2 * STRAIGHT_PLACES;
        private static final int BITS = 4;
        private static final int NEW_PART = 15;

        private final Board board;
        private final int[] places = new int[PLACES];
        private final int[] names = new int[NEW_PART + 1];
        private BorderList before = new BorderList();
        private BorderList after = new BorderList();

        Sweep(Board board) {
            this.board = board;
        }

        int countAll() {
            before.clear();
            before.add(0L, 1);
            for (int cell = 0; cell < board.count(); cell++) {
                after.clear();
                sweepOver(cell);
                BorderList swept = after;
                after = before;
                before = swept;
            }
            // behind the last cell all places are closed, so one border is left, or none
            return before.waysAt(0);
        }

        private void sweepOver(int cell) {
            int lays = board.ownLays(cell);
            for (int k = 0; k < before.count(); k++) {
                for (int lay = 0; lay < SIDES; lay++) {
                    if (holds(lays, lay)) {
                        unpack(before.borderAt(k));
                        if (pass(cell, turned(board.sidesOf(cell), lay))) {
                            after.add(pack(), before.waysAt(k));
                        }
                    }
                }
            }
        }

        private void unpack(long border) {
            for (int place = 0; place < PLACES; place++) {
                places[place] = (int) (border >> BITS * place) & NEW_PART;
            }
        }

        /** The border as one number, its parts named anew in the order in which they come. */
        private long pack() {
            Arrays.fill(names, 0);
            int named = 0;
            long border = 0L;
            for (int place = 0; place < PLACES; place++) {
                int part = places[place] & NEW_PART;
                if (part != 0 && names[part] == 0) {
                    named++;
                    names[part] = named;
                }
                border |= (long) names[part] << BITS * place;
            }
            return border;
        }

        /** Moves the border over a cell with a tile; false if no solution is like that. */
        private boolean pass(int cell, int sides) {
            for (int side = UP; side <= LEFT; side++) {
                int other = board.across(cell, side);
                boolean open = holds(sides, side);
                if (other == NONE && open) {
                    return false;
                }
                if (other != NONE && other < cell && !take(placeOf(cell, side), open)) {
                    return false;
                }
            }
            for (int side = UP; side <= LEFT; side++) {
                if (board.across(cell, side) > cell) {
                    put(placeOf(cell, side), holds(sides, side));
                }
            }
            return cell == board.count() - 1 || goesOn();
        }

        /** Joins the part at a place to the new one; false if it does not fit or closes a circle. */
        private boolean take(int place, boolean open) {
            int part = at(places, place);
            if (part == NEW_PART || open != (part != 0)) {
                return false;
            }
            for (int k = 0; k < PLACES; k++) {
                if (open && places[k] == part) {
                    places[k] = NEW_PART;
                }
            }
            put(place, false);
            return true;
        }

        private void put(int place, boolean open) {
            if (place >= 0 && place < PLACES) {
                places[place] = open ? NEW_PART : 0;
            }
        }

        /** Whether the new part is open anywhere: other cells can not come to it else. */
        private boolean goesOn() {
            for (int place = 0; place < PLACES; place++) {
                if (places[place] == NEW_PART) {
                    return true;
                }
            }
            return false;
        }

        private int placeOf(int cell, int side) {
            boolean rises = board.beside(cell, side) > cell;
            boolean leadsRound = rises != (side == RIGHT || side == DOWN);
            int place = side == UP || side == DOWN ? board.columnOf(cell) : MOST_WIDTH;
            return leadsRound ? place + STRAIGHT_PLACES : place;
        }
    }

    /** Borders, none twice, each with the number of ways to come to it. */
    private static final class BorderList {
        private long[] borders = new long[16];
        private int[] ways = new int[16];
        private int count;

        void clear() {
            count = 0;
        }

        int count() {
            return count;
        }

        long borderAt(int k) {
            return k >= 0 && k < count && k < borders.length ? borders[k] : 0L;
        }

        int waysAt(int k) {
            return k >= 0 && k < count && k < ways.length ? ways[k] : 0;
        }

        void add(long border, int more) {
            for (int k = 0; k < count && k < borders.length && k < ways.length; k++) {
                if (borders[k] == border) {
                    ways[k] += more;
                    return;
                }
            }
            makeRoom();
            if (count >= 0 && count < borders.length && count < ways.length) {
                borders[count] = border;
                ways[count] = more;
                count++;
            }
        }

        private void makeRoom() {
            int room = 2 * borders.length;
            if (count >= borders.length && room > 0) {
                borders = Arrays.copyOf(borders, room);
                ways = Arrays.copyOf(ways, room);
            }
        }
    }
}
