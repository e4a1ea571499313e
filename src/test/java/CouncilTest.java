/** Promises 28 and 29: how much each voice weighs in the council, and the least that carries. */
public final class CouncilTest {
    private static final Due T = new Due("CouncilTest");

    public static void main(String[] args) {
        power();
        carries();
        T.end();
    }

    private static SeatsToTheReluctant council(int... a) {
        SeatsToTheReluctant x = new SeatsToTheReluctant();
        for (int one : a) {
            x.person(0, one, 0, 1, 0);
        }
        return x;
    }

    private static void powers(SeatsToTheReluctant x, int set, int... due) {
        for (int p = 0; p < due.length; p++) {
            T.due("28: power(" + p + ", " + set + ")", x.power(p, set), due[p]);
        }
    }

    private static void power() {
        powers(council(0, 0, 0), 7, 2, 2, 2);
        powers(council(0, 0, 0, 0, 0, 0, 0), 127, 720, 720, 720, 720, 720, 720, 720);
        powers(council(9, 0, 0), 7, 6, 0, 0);
        powers(council(9, 0, 0, 0, 0, 0, 0), 127, 5040, 0, 0, 0, 0, 0, 0);
        // Weights 2, 1, 1: half is 2, so the first needs one more; the others need him.
        powers(council(1, 0, 0), 7, 4, 1, 1);
        powers(council(0, 0), 3, 1, 1);
        powers(council(4, 9), 1, 1);
        T.due("28: of a part of them", council(9, 0, 0).power(2, 6), 1);
        T.due("28: of a part of them", council(0, 9, 1).power(2, 5), 2);
        SeatsToTheReluctant x = council(1, 2, 3);
        T.due("28: power(3, 99)", x.power(3, 99), -1);
        T.due("28: power(-1, 7)", x.power(-1, 7), -1);
        T.due("28: power(0, 8 + 2)", x.power(0, 10), -5);
        T.due("28: power(0, 0)", x.power(0, 0), -5);
        T.due("28: power(0, 8 + 1)", x.power(0, 9), -6);
        T.due("28: power(0, -1)", x.power(0, -1), -6);
        T.due("28: power(2, MIN + 4)", x.power(2, Integer.MIN_VALUE + 4), -6);
        T.due("28: status(11)", x.status(11), 2);
        T.due("28: status(15)", x.status(15), 2);
        T.due("28: status(16)", x.status(16), 3);
    }

    private static void carries() {
        SeatsToTheReluctant x = council(3, 4, 2, 9, 0, 1, 0);
        T.due("29: carries(127)", x.carries(127), 9);
        T.due("29: carries(0)", x.carries(0), 0);
        T.due("29: carries(16)", x.carries(16), 16);
        T.due("29: half isn't enough: 1 and 1", x.carries(80), 80);
        T.due("29: fewest, not lightest: 10 of 10, 3, 2", x.carries(8 + 4 + 32), 8);
        // Weights 1, 2, 3, 4: of two that carry 2 and 4 are the least as bits.
        x = council(0, 1, 2, 3);
        T.due("29: of several the least", x.carries(15), 10);
        x = council(0, 0, 0, 0, 0, 0, 9);
        T.due("29: one at the end", x.carries(127), 64);
        T.due("29: one at the beginning", council(9, 0, 0).carries(7), 1);
        // Weights 1, 1, 1, 5, 5: three light ones and one heavy are less as bits than the two heavy.
        x = council(0, 0, 0, 4, 4);
        T.due("29: fewest, not least", x.carries(31), 24);
        T.due("29: not there", x.carries(32), -6);
        T.due("29: not there", x.carries(-1), -6);
        T.due("29: not there", x.carries(Integer.MIN_VALUE), -6);
        T.due("29: status(16)", x.status(16), 3);
        x = new SeatsToTheReluctant();
        T.due("29: nobody there", x.carries(0), 0);
        T.due("29: nobody there", x.carries(1), -6);
    }
}
