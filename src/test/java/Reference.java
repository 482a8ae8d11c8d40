import java.util.ArrayList;
import java.util.Collections;
import java.util.LinkedHashSet;
import java.util.List;
import java.util.Random;
import java.util.Set;
import java.util.TreeSet;

/**
 * The document's words, done as plainly as can be and otherwise than in NetPlumber: by columns and
 * rows, sets and lists, one struck lay at a time in a shuffled order, solutions by trying.
 */
final class Reference {
    private static final int[] STEP_X = {0, 1, 0, -1};
    private static final int[] STEP_Y = {-1, 0, 1, 0};

    private final Random order;
    private int width;
    private int height;
    private boolean ring;
    private int[] tiles;
    private Set<Integer> locked;
    private Set<Set<Integer>> walls;
    private int source;
    private List<Integer> done;
    private List<Integer> undone;

    Reference(long seed) {
        order = new Random(seed);
        begin(3, 3, false);
    }

    private static RuntimeException none() {
        return new IllegalStateException();
    }

    private void checkCell(int cell) {
        if (cell < 0 || cell >= width * height) {
            throw new IndexOutOfBoundsException();
        }
    }

    private void checkSide(int side) {
        if (side < 0 || side > 3) {
            throw new IndexOutOfBoundsException();
        }
    }

    int begin(int w, int h, boolean asRing) {
        boolean good = w >= 2 && w <= 5 && h >= 2 && h <= 5 && w * h <= 16
                && !(asRing && (w == 2 || h == 2 || w * h > 12));
        if (!good) {
            throw new IllegalArgumentException();
        }
        width = w;
        height = h;
        ring = asRing;
        tiles = new int[w * h];
        locked = new TreeSet<>();
        walls = new LinkedHashSet<>();
        source = 0;
        done = new ArrayList<>();
        undone = new ArrayList<>();
        return w * h;
    }

    int make(int w, int h, boolean asRing, int number) {
        if (number < 0 || number > 65535) {
            throw new IllegalArgumentException();
        }
        begin(w, h, asRing);
        long drawn = number;
        List<int[]> pairs = new ArrayList<>();
        for (int cell = 0; cell < w * h; cell++) {
            for (int side : new int[] {1, 2}) {
                if (neighbour(cell, side) >= 0) {
                    pairs.add(new int[] {cell, side});
                }
            }
        }
        for (int k = pairs.size() - 1; k >= 1; k--) {
            drawn = (24693L * drawn + 3517L) % 65536L;
            int other = (int) (drawn % (k + 1));
            int[] held = pairs.get(k);
            pairs.set(k, pairs.get(other));
            pairs.set(other, held);
        }
        for (int[] pair : pairs) {
            int other = neighbour(pair[0], pair[1]);
            if (!from(pair[0]).contains(other)) {
                tiles[pair[0]] += 1 << pair[1];
                tiles[other] += 1 << (pair[1] + 2) % 4;
            }
        }
        int ends = 0;
        for (int cell = 0; cell < w * h; cell++) {
            ends += Integer.bitCount(tiles[cell]) == 1 ? 1 : 0;
            drawn = (24693L * drawn + 3517L) % 65536L;
            tiles[cell] = quarters(tiles[cell], (int) (drawn % 4));
        }
        return ends;
    }

    int setTile(int cell, int sides) {
        checkCell(cell);
        if (sides < 0 || sides > 15) {
            throw new IllegalArgumentException();
        }
        int before = tiles[cell];
        tiles[cell] = sides;
        done.clear();
        undone.clear();
        return before;
    }

    boolean setWall(int cell, int side, boolean wall) {
        checkCell(cell);
        checkSide(side);
        if (neighbour(cell, side) < 0) {
            throw none();
        }
        Set<Integer> joint = Set.of(cell, neighbour(cell, side));
        return wall ? !walls.add(joint) : walls.remove(joint);
    }

    boolean setLock(int cell, boolean lock) {
        checkCell(cell);
        return lock ? !locked.add(cell) : locked.remove(cell);
    }

    int setSource(int cell) {
        checkCell(cell);
        int before = source;
        source = cell;
        return before;
    }

    int turn(int cell) {
        checkCell(cell);
        if (locked.contains(cell)) {
            throw none();
        }
        undone.clear();
        done.add(cell);
        tiles[cell] = quarters(tiles[cell], 1);
        return tiles[cell];
    }

    int undo() {
        if (done.isEmpty()) {
            throw none();
        }
        int cell = done.remove(done.size() - 1);
        undone.add(cell);
        tiles[cell] = quarters(tiles[cell], 3);
        return done.size();
    }

    int redo() {
        if (undone.isEmpty()) {
            throw none();
        }
        int cell = undone.remove(undone.size() - 1);
        done.add(cell);
        tiles[cell] = quarters(tiles[cell], 1);
        return done.size();
    }

    int moves() {
        return done.size();
    }

    int size() {
        return width * height;
    }

    int tile(int cell) {
        checkCell(cell);
        return tiles[cell];
    }

    int neighbour(int cell, int side) {
        checkCell(cell);
        checkSide(side);
        int x = cell % width + STEP_X[side];
        int y = cell / width + STEP_Y[side];
        if (ring) {
            x = (x + width) % width;
            y = (y + height) % height;
        }
        return x < 0 || x >= width || y < 0 || y >= height ? -1 : y * width + x;
    }

    boolean isJoined(int cell, int side) {
        int other = neighbour(cell, side);
        return other >= 0 && !walls.contains(Set.of(cell, other))
                && open(tiles[cell], side) && open(tiles[other], (side + 2) % 4);
    }

    int loose() {
        int loose = 0;
        for (int cell = 0; cell < size(); cell++) {
            for (int side = 0; side < 4; side++) {
                loose += open(tiles[cell], side) && !isJoined(cell, side) ? 1 : 0;
            }
        }
        return loose;
    }

    int watered() {
        return from(source).size();
    }

    boolean isWatered(int cell) {
        checkCell(cell);
        return from(source).contains(cell);
    }

    boolean isSolved() {
        int joined = 0;
        for (int cell = 0; cell < size(); cell++) {
            joined += isJoined(cell, 1) ? 1 : 0;
            joined += isJoined(cell, 2) ? 1 : 0;
        }
        return loose() == 0 && from(0).size() == size() && joined == size() - 1;
    }

    int lays(int cell) {
        checkCell(cell);
        int set = 0;
        for (int lay : laysLeft().get(cell)) {
            set += 1 << lay;
        }
        return set;
    }

    int solutions() {
        return allSolutions().size();
    }

    int first(int cell) {
        checkCell(cell);
        List<int[]> all = allSolutions();
        if (all.isEmpty()) {
            throw none();
        }
        return all.get(0)[cell];
    }

    int fewestTurns() {
        int fewest = Integer.MAX_VALUE;
        for (int[] lays : allSolutions()) {
            int sum = 0;
            for (int lay : lays) {
                sum += lay;
            }
            fewest = Math.min(fewest, sum);
        }
        if (fewest == Integer.MAX_VALUE) {
            throw none();
        }
        return fewest;
    }

    private static boolean open(int tile, int side) {
        return tile / (1 << side) % 2 == 1;
    }

    private static int quarters(int tile, int times) {
        int turned = tile;
        for (int k = 0; k < times; k++) {
            int next = 0;
            for (int side = 0; side < 4; side++) {
                next += open(turned, side) ? 1 << (side + 1) % 4 : 0;
            }
            turned = next;
        }
        return turned;
    }

    private Set<Integer> from(int start) {
        Set<Integer> reached = new LinkedHashSet<>();
        List<Integer> waiting = new ArrayList<>(List.of(start));
        while (!waiting.isEmpty()) {
            int cell = waiting.remove(0);
            if (reached.add(cell)) {
                for (int side = 0; side < 4; side++) {
                    if (isJoined(cell, side)) {
                        waiting.add(neighbour(cell, side));
                    }
                }
            }
        }
        return reached;
    }

    private List<Integer> ownLays(int cell) {
        List<Integer> lays = new ArrayList<>();
        List<Integer> made = new ArrayList<>();
        for (int lay = 0; lay < 4; lay++) {
            int tile = quarters(tiles[cell], lay);
            if (!made.contains(tile) && (lay == 0 || !locked.contains(cell))) {
                lays.add(lay);
            }
            made.add(tile);
        }
        return lays;
    }

    private boolean way(int cell, int side) {
        return neighbour(cell, side) >= 0 && !walls.contains(Set.of(cell, neighbour(cell, side)));
    }

    private List<List<Integer>> laysLeft() {
        List<List<Integer>> left = new ArrayList<>();
        for (int cell = 0; cell < size(); cell++) {
            left.add(ownLays(cell));
        }
        boolean changed = true;
        while (changed) {
            changed = false;
            List<int[]> all = new ArrayList<>();
            for (int cell = 0; cell < size(); cell++) {
                for (int lay : left.get(cell)) {
                    all.add(new int[] {cell, lay});
                }
            }
            Collections.shuffle(all, order);
            for (int[] one : all) {
                if (isStruck(left, one[0], quarters(tiles[one[0]], one[1]))) {
                    left.get(one[0]).remove(Integer.valueOf(one[1]));
                    changed = true;
                    break;
                }
            }
        }
        return left;
    }

    private boolean isStruck(List<List<Integer>> left, int cell, int tile) {
        for (int side = 0; side < 4; side++) {
            if (!way(cell, side)) {
                if (open(tile, side)) {
                    return true;
                }
                continue;
            }
            boolean met = false;
            int other = neighbour(cell, side);
            for (int lay : left.get(other)) {
                met |= open(quarters(tiles[other], lay), (side + 2) % 4) == open(tile, side);
            }
            if (!met) {
                return true;
            }
        }
        for (int a = 0; a < 4; a++) {
            for (int b = a + 1; b < 4; b++) {
                if (open(tile, a) && open(tile, b) && way(cell, a) && way(cell, b)
                        && hangTogether(left, neighbour(cell, a), neighbour(cell, b), cell)) {
                    return true;
                }
            }
        }
        return false;
    }

    private boolean settled(List<List<Integer>> left, int cell, int side) {
        if (!way(cell, side)) {
            return false;
        }
        for (int lay : left.get(cell)) {
            if (!open(quarters(tiles[cell], lay), side)) {
                return false;
            }
        }
        int other = neighbour(cell, side);
        for (int lay : left.get(other)) {
            if (!open(quarters(tiles[other], lay), (side + 2) % 4)) {
                return false;
            }
        }
        return true;
    }

    private boolean hangTogether(List<List<Integer>> left, int one, int two, int without) {
        Set<Integer> reached = new LinkedHashSet<>();
        List<Integer> waiting = new ArrayList<>(List.of(one));
        while (!waiting.isEmpty()) {
            int cell = waiting.remove(0);
            if (cell != without && reached.add(cell)) {
                for (int side = 0; side < 4; side++) {
                    if (settled(left, cell, side)) {
                        waiting.add(neighbour(cell, side));
                    }
                }
            }
        }
        return reached.contains(two);
    }

    /** All solutions, the lesser ones first: over the lays that each cell has before any is struck. */
    private List<int[]> allSolutions() {
        List<int[]> all = new ArrayList<>();
        int[] given = tiles;
        tiles = given.clone();
        tryFrom(0, given, new int[size()], all);
        tiles = given;
        return all;
    }

    private void tryFrom(int cell, int[] given, int[] lays, List<int[]> all) {
        if (cell == size()) {
            if (isSolved()) {
                all.add(lays.clone());
            }
            return;
        }
        for (int lay : ownLays(cell)) {
            tiles[cell] = quarters(given[cell], lay);
            lays[cell] = lay;
            if (noneLooseUpTo(cell)) {
                tryFrom(cell + 1, given, lays, all);
            }
        }
        tiles[cell] = given[cell];
    }

    private boolean noneLooseUpTo(int cell) {
        for (int side = 0; side < 4; side++) {
            int other = neighbour(cell, side);
            boolean behind = other < cell;
            if (behind && open(tiles[cell], side) && !isJoined(cell, side)) {
                return false;
            }
            if (behind && way(cell, side) && !open(tiles[cell], side)
                    && open(tiles[other], (side + 2) % 4)) {
                return false;
            }
        }
        return true;
    }
}
