import java.io.IOException;
import java.lang.reflect.Method;
import java.nio.file.Files;
import java.nio.file.Path;

/** The example of README.md: these lines stand there, and answer what they say there. */
public final class UseTest {
    private static final String EXAMPLE = """
            NetPlumber board = new NetPlumber();
            board.make(4, 4, false, 7);              // 4 columns, 4 rows, no ring board, drawn from 7
            int turns = board.fewestTurns();         // 24
            for (int cell = 0; cell < board.size(); cell++) {
                int lay = board.first(cell);         // the quarter turns of the cell in the first solution
                for (int k = 0; k < lay; k++) {
                    board.turn(cell);
                }
            }
            boolean solved = board.isSolved();       // true
            """;

    private UseTest() {
    }

    public static void main(String[] args) throws IOException {
        String readme = Files.readString(Path.of("README.md"));
        Check.due("README.md holds the example", true, () -> readme.contains(EXAMPLE));
        example();
        everyCallIsTold(readme);
        Check.end();
    }

    private static void example() {
        NetPlumber board = new NetPlumber();
        board.make(4, 4, false, 7);
        int turns = board.fewestTurns();
        for (int cell = 0; cell < board.size(); cell++) {
            int lay = board.first(cell);
            for (int k = 0; k < lay; k++) {
                board.turn(cell);
            }
        }
        boolean solved = board.isSolved();
        Check.due("the example: turns", 24, () -> turns);
        Check.due("the example: solved", true, () -> solved);
        Check.due("the example: moves", 24, board::moves);
        Check.due("the example: fewestTurns at last", 0, board::fewestTurns);
    }

    /** README.md says how to use the class: each public method has a row of a table there. */
    private static void everyCallIsTold(String readme) {
        for (Method method : NetPlumber.class.getMethods()) {
            if (method.getDeclaringClass() == NetPlumber.class) {
                String row = "| `" + method.getName() + "(";
                Check.due("README.md tells " + method.getName(), true, () -> readme.contains(row));
            }
        }
    }
}
