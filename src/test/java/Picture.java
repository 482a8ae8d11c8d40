/** All that the calls tell of an object, as a text. It needs some 350 calls at most, and spoils the object. */
final class Picture {
    private final NetPlumber x;
    private final int size;
    private final StringBuilder all = new StringBuilder();

    private Picture(NetPlumber x) {
        this.x = x;
        size = x.size();
    }

    static String of(NetPlumber x) {
        Picture picture = new Picture(x);
        picture.look();
        picture.solve();
        picture.settings();
        picture.history();
        return picture.all.toString();
    }

    private void say(String what, Check.Call call) {
        all.append(' ').append(what).append('=').append(Check.answerOf(call));
    }

    private void look() {
        say("size", x::size);
        say("moves", x::moves);
        say("loose", x::loose);
        say("watered", x::watered);
        say("solved", x::isSolved);
        for (int cell = 0; cell < size; cell++) {
            int at = cell;
            say("tile", () -> x.tile(at));
            say("wet", () -> x.isWatered(at));
            for (int side = 0; side < 4; side++) {
                int to = side;
                say("beside", () -> x.neighbour(at, to));
            }
        }
    }

    private void solve() {
        for (int cell = 0; cell < size; cell++) {
            int at = cell;
            say("lays", () -> x.lays(at));
        }
        say("first", () -> x.first(0));
        say("solutions", x::solutions);
        say("sweep", x::solutionsBySweep);
        say("fewest", x::fewestTurns);
    }

    /** Locks, walls and the source are told only by calls that change them. */
    private void settings() {
        for (int cell = 0; cell < size; cell++) {
            int at = cell;
            say("lock", () -> x.setLock(at, false));
            say("right wall", () -> x.setWall(at, NetPlumber.RIGHT, false));
            say("wall below", () -> x.setWall(at, NetPlumber.DOWN, false));
        }
        say("source", () -> x.setSource(0));
    }

    private void history() {
        while (goes("redo", x::redo)) {
            tiles();
        }
        while (goes("undo", x::undo)) {
            tiles();
        }
    }

    private boolean goes(String what, Check.Call call) {
        String answer = Check.answerOf(call);
        all.append(' ').append(what).append('=').append(answer);
        return !answer.startsWith("throws");
    }

    private void tiles() {
        for (int cell = 0; cell < size; cell++) {
            int at = cell;
            say("tile", () -> x.tile(at));
        }
    }
}
