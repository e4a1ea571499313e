/** Promises 37 and 38: moves of people, and the trace of them. */
public final class MovesTest {
    private static final int MIN = Integer.MIN_VALUE;
    private static final int MAX = Integer.MAX_VALUE;
    private static final Due T = new Due("MovesTest");

    public static void main(String[] args) {
        everyKind();
        wrapping();
        noneSuch();
        T.end();
    }

    private static void act(SeatsToTheReluctant x, int person, int move, int v, int due, int... bodies) {
        String call = "act(" + person + ", " + move + ", " + v + ")";
        T.due("37: " + call, x.act(person, move, v), due);
        for (int i = 0; i < bodies.length; i++) {
            T.due("38: " + call + ", trace(" + i + ")", x.trace(i), bodies[i]);
        }
        T.due("38: " + call + ", behind the last", x.trace(bodies.length), -1);
        T.due("41: " + call + ", status(8)", x.status(8), bodies.length);
    }

    private static void everyKind() {
        SeatsToTheReluctant x = new SeatsToTheReluctant();
        for (int kind = 0; kind < 7; kind++) {
            // The number is the kind; a is 2 more than it.
            x.person(kind, kind + 2, 0, 1, 0);
        }
        act(x, 0, 0, 10, 10, 10);
        act(x, 0, 1, 10, 20, 11, 10);
        act(x, 0, 2, 10, 20 ^ 8, 12, 11, 10, 10);
        // A coward runs x + 1 + 3.
        act(x, 1, 0, 10, 14, 20, 10);
        act(x, 1, 1, 10, 28, 11, 20, 10);
        act(x, 1, 2, 10, 28 ^ 11, 12, 11, 20, 10, 20, 10);
        // A lady runs x + 2, a 4.
        act(x, 2, 0, 10, 12, 10);
        act(x, 2, 1, 10, 72, 30, 11, 10);
        act(x, 2, 2, 10, 72 ^ 8, 12, 30, 11, 10, 10);
        // A pretender runs x + 1 + 3 + 5.
        act(x, 3, 0, 10, 19, 40, 20, 10);
        act(x, 3, 1, 10, 38, 11, 40, 20, 10);
        act(x, 3, 2, 10, 38 ^ 14, 12, 11, 40, 20, 10, 40, 20, 10);
        // A longer runs x + 4 - 4, a 6.
        act(x, 4, 0, 10, 10, 51, 10);
        act(x, 4, 1, 10, 20, 11, 51, 10);
        act(x, 4, 2, 10, -(20 ^ 4), 50, 12, 11, 51, 10, 51, 10);
        // A fainter runs x + 5, a 7.
        act(x, 5, 0, 10, 15, 10);
        act(x, 5, 1, 10, 90, 30, 11, 10);
        act(x, 5, 2, 10, 90 ^ 8 ^ 5, 60, 12, 30, 11, 10, 10);
        // A clerk runs (x + 1 + 6 + 8) * 2 and hides with x - 8.
        act(x, 6, 0, 10, 50, 70, 40, 20, 10);
        act(x, 6, 1, 10, 68, 71, 11, 70, 40, 20, 10);
        act(x, 6, 2, 10, 68 ^ 34, 12, 71, 11, 70, 40, 20, 10, 70, 40, 20, 10);
    }

    private static void wrapping() {
        SeatsToTheReluctant x = new SeatsToTheReluctant();
        x.person(0, 9, 0, 1, 0);
        x.person(1, 9, 0, 1, 0);
        x.person(6, 9, 0, 1, 0);
        act(x, 1, 0, MAX, MIN + 9, 20, 10);
        act(x, 0, 1, MAX, -2, 11, 10);
        act(x, 0, 2, MIN, MAX - 8, 12, 11, 10, 10);
        act(x, 2, 0, MAX, 22, 70, 40, 20, 10);
    }

    private static void noneSuch() {
        SeatsToTheReluctant x = new SeatsToTheReluctant();
        x.person(0, 1, 0, 1, 0);
        int[][] none = {{1, 0}, {-1, 0}, {7, 0}, {0, 3}, {0, -1}, {MIN, MAX}};
        for (int[] n : none) {
            T.due("37: act(0, 2, 5)", x.act(0, 2, 5), 10 ^ 4);
            act(x, n[0], n[1], 5, 0);
            T.due("38: no trace then", x.trace(0), -1);
        }
        x.act(0, 2, 5);
        T.due("38: trace(-1)", x.trace(-1), -1);
        T.due("38: trace(20)", x.trace(20), -1);
        T.due("38: trace(MIN)", x.trace(MIN), -1);
        T.due("38: trace(MAX)", x.trace(MAX), -1);
        for (int what = 11; what <= 17; what++) {
            T.due("37: nothing is refused, status(" + what + ")", x.status(what), 0);
        }
    }
}
