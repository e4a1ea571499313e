/** Promises 9 to 14, 17, 18 and 41: people, fences, what is asked, and how many of each there are. */
public final class PortTest {
    private static final int MIN = Integer.MIN_VALUE;
    private static final int MAX = Integer.MAX_VALUE;
    private static final Due T = new Due("PortTest");

    public static void main(String[] args) {
        person();
        fence();
        tell();
        ask();
        personOf();
        squareOf();
        far();
        who();
        status();
        T.end();
    }

    private static void person() {
        SeatsToTheReluctant x = new SeatsToTheReluctant();
        x.fence(3, true);
        T.due("9: lowest numbers", x.person(0, 0, 0, 1, 0), 0);
        T.due("9: highest numbers", x.person(6, 9, 20, 4, 48), 1);
        T.due("9: kind -1", x.person(-1, 10, 0, 1, 0), -1);
        T.due("9: kind 7", x.person(7, 0, 0, 1, 0), -1);
        int[][] wrong = {
            {0, -1, 0, 1, 0}, {0, 10, 0, 1, 0}, {0, 0, -1, 1, 0}, {0, 0, 21, 1, 0}, {0, 0, 0, 0, 0},
            {0, 0, 0, 5, 0}, {0, 0, 0, 1, -1}, {0, 0, 0, 1, 49}, {0, 0, 0, 1, 3}, {0, MIN, 0, 1, 0},
            {0, 0, MAX, 1, 0}, {0, 0, 0, MIN, 0}, {0, 0, 0, 1, MAX}, {0, 0, 0, 1, MIN}
        };
        for (int[] w : wrong) {
            T.due("9: wrong " + java.util.Arrays.toString(w), x.person(w[0], w[1], w[2], w[3], w[4]), -6);
        }
        T.due("9: two", x.status(0), 2);
        for (int p = 2; p < 7; p++) {
            T.due("9: several at one, at the lamp too", x.person(0, 0, 0, 1, 24), p);
        }
        T.due("9: no room", x.person(0, 0, 0, 1, 0), -7);
        T.due("9: wrong ahead of no room", x.person(0, 0, 0, 1, 3), -6);
        T.due("9: no such kind ahead of no room", x.person(7, 0, 0, 1, 3), -1);
        T.due("9: seven", x.status(0), 7);
        T.due("9: status(11)", x.status(11), 3);
        T.due("9: status(16)", x.status(16), wrong.length + 1);
        T.due("9: status(17)", x.status(17), 1);
    }

    private static void fence() {
        SeatsToTheReluctant x = new SeatsToTheReluctant();
        x.person(0, 0, 0, 1, 5);
        T.due("10: fence(0, true)", x.fence(0, true), 0);
        T.due("10: fence(0, true) again", x.fence(0, true), 1);
        T.due("10: fence(48, true)", x.fence(48, true), 0);
        T.due("10: status(1)", x.status(1), 2);
        T.due("10: fence(0, false)", x.fence(0, false), 1);
        T.due("10: fence(0, false) again", x.fence(0, false), 0);
        T.due("10: status(1)", x.status(1), 1);
        T.due("10: squareOf(48, 0)", x.squareOf(48, 0), 1);
        T.due("10: the lamp", x.fence(24, true), -6);
        T.due("10: the lamp, open", x.fence(24, false), -6);
        T.due("10: somebody there", x.fence(5, true), -6);
        T.due("10: somebody there, open", x.fence(5, false), -6);
        T.due("10: fence(-1, true)", x.fence(-1, true), -6);
        T.due("10: fence(49, false)", x.fence(49, false), -6);
        T.due("10: fence(MIN, true)", x.fence(MIN, true), -6);
        T.due("10: fence(MAX, true)", x.fence(MAX, true), -6);
        T.due("10: status(16)", x.status(16), 8);
        T.due("10: status(1)", x.status(1), 1);
        x.tell(0, 2, 6);
        T.due("10: he has gone", x.fence(5, true), 0);
    }

    private static void tell() {
        SeatsToTheReluctant x = new SeatsToTheReluctant();
        x.person(0, 3, 5, 2, 7);
        x.fence(9, true);
        T.due("11: want", x.tell(0, 0, 20), 5);
        T.due("11: want again", x.tell(0, 0, 0), 20);
        T.due("11: speed", x.tell(0, 1, 4), 2);
        T.due("11: speed again", x.tell(0, 1, 1), 4);
        T.due("11: at", x.tell(0, 2, 48), 7);
        T.due("11: at again", x.tell(0, 2, 0), 48);
        int[][] wrong = {
            {0, -1}, {0, 21}, {1, 0}, {1, 5}, {2, -1}, {2, 49}, {2, 9}, {3, 1}, {-1, 1}, {MIN, 1}, {0, MAX}, {2, MIN}
        };
        for (int[] w : wrong) {
            T.due("11: tell(0, " + w[0] + ", " + w[1] + ")", x.tell(0, w[0], w[1]), -6);
        }
        T.due("11: tell(1, 9, 99)", x.tell(1, 9, 99), -1);
        T.due("11: tell(-1, 0, 1)", x.tell(-1, 0, 1), -1);
        int[] now = {0, 3, 0, 1, 0, 0};
        for (int what = 0; what < now.length; what++) {
            T.due("11: personOf(0, " + what + ")", x.personOf(0, what), now[what]);
        }
        T.due("11: status(11)", x.status(11), 2);
        T.due("11: status(16)", x.status(16), wrong.length);
    }

    private static void ask() {
        SeatsToTheReluctant x = new SeatsToTheReluctant();
        T.due("12: ask(0, 1)", x.ask(0, 1), 2);
        T.due("12: ask(0, 4)", x.ask(0, 4), 1);
        T.due("12: ask(1, 0)", x.ask(1, 0), 20);
        T.due("12: ask(1, 40)", x.ask(1, 40), 0);
        int[][] wrong = {{0, 0}, {0, 5}, {1, -1}, {1, 41}, {2, 1}, {-1, 1}, {0, MIN}, {1, MAX}};
        for (int[] w : wrong) {
            T.due("12: ask(" + w[0] + ", " + w[1] + ")", x.ask(w[0], w[1]), -6);
        }
        T.due("12: status(2)", x.status(2), 4);
        T.due("12: status(3)", x.status(3), 40);
        T.due("12: status(16)", x.status(16), wrong.length);
    }

    private static void personOf() {
        SeatsToTheReluctant x = new SeatsToTheReluctant();
        // kind, a, want, smell, flees
        int[][] told = {
            {0, 9, 9, 9, 1}, {0, 9, 10, 10, 0}, {2, 9, 9, 4, 1}, {2, 9, 10, 5, 0}, {5, 9, 9, 4, 1}, {5, 9, 10, 5, 0},
            {1, 3, 12, 12, 1}, {1, 3, 13, 13, 0}, {3, 3, 12, 15, 1}, {3, 3, 13, 16, 0}, {6, 3, 12, 18, 1},
            {6, 3, 13, 19, 0}, {4, 9, 0, 0, 0}, {4, 9, 20, 20, 0}
        };
        for (int[] t : told) {
            x = new SeatsToTheReluctant();
            x.person(t[0], t[1], t[2], 2, 8);
            String of = java.util.Arrays.toString(t);
            T.due("13: kind of " + of, x.personOf(0, 0), t[0]);
            T.due("13: a of " + of, x.personOf(0, 1), t[1]);
            T.due("13: want of " + of, x.personOf(0, 2), t[2]);
            T.due("13: speed of " + of, x.personOf(0, 3), 2);
            T.due("13: at of " + of, x.personOf(0, 4), 8);
            T.due("13: sat of " + of, x.personOf(0, 5), 0);
            T.due("13: smell of " + of, x.personOf(0, 6), t[3]);
            T.due("13: flees of " + of, x.personOf(0, 7), t[4]);
            x.ask(1, t[3]);
            T.due("13: not put out, " + of, x.personOf(0, 8), 0);
            if (t[3] > 0) {
                x.ask(1, t[3] - 1);
                T.due("13: put out, " + of, x.personOf(0, 8), 1);
            }
        }
        x.vote();
        T.due("13: personOf(0, 9)", x.personOf(0, 9), -5);
        T.due("13: personOf(0, -1)", x.personOf(0, -1), -5);
        T.due("13: personOf(1, 0)", x.personOf(1, 0), -5);
        T.due("13: personOf(-1, 0)", x.personOf(-1, 0), -5);
        T.due("13: status(15)", x.status(15), 4);
    }

    private static void squareOf() {
        SeatsToTheReluctant x = new SeatsToTheReluctant();
        x.person(0, 0, 0, 1, 48);
        x.person(0, 0, 0, 1, 0);
        x.person(0, 0, 0, 1, 48);
        x.fence(1, true);
        T.due("14: squareOf(48, 1)", x.squareOf(48, 1), 5);
        T.due("14: squareOf(0, 1)", x.squareOf(0, 1), 2);
        T.due("14: squareOf(1, 1)", x.squareOf(1, 1), 0);
        T.due("14: squareOf(1, 0)", x.squareOf(1, 0), 1);
        T.due("14: squareOf(0, 0)", x.squareOf(0, 0), 0);
        T.due("14: squareOf(0, 2)", x.squareOf(0, 2), -5);
        T.due("14: squareOf(0, -1)", x.squareOf(0, -1), -5);
        T.due("14: squareOf(49, 0)", x.squareOf(49, 0), -5);
        T.due("14: squareOf(-1, 1)", x.squareOf(-1, 1), -5);
        T.due("14: squareOf(MIN, 1)", x.squareOf(MIN, 1), -5);
        T.due("14: status(15)", x.status(15), 5);
    }

    private static void far() {
        SeatsToTheReluctant x = new SeatsToTheReluctant();
        for (int square = 0; square < 49; square++) {
            T.due("17: far(" + square + ")", x.far(square), Math.abs(square / 7 - 3) + Math.abs(square % 7 - 3));
        }
        T.due("17: far(-1)", x.far(-1), -6);
        T.due("17: far(49)", x.far(49), -6);
        T.due("17: far(MIN)", x.far(MIN), -6);
        T.due("17: status(16)", x.status(16), 3);
        x.fence(17, true);
        T.due("17: a fence", x.far(17), 99);
        T.due("17: about a fence", x.far(10), 4);
        x.fence(23, true);
        x.fence(25, true);
        T.due("17: about three", x.far(10), 8);
        T.due("17: the one way", x.far(38), 2);
        x.fence(31, true);
        T.due("17: no way", x.far(38), 99);
        T.due("17: the lamp", x.far(24), 0);
        x.fence(17, false);
        T.due("17: a way again", x.far(38), 8);
        // A wall from edge to edge in row 1: no step around it by the next row's ends.
        x = new SeatsToTheReluctant();
        for (int square = 7; square < 14; square++) {
            x.fence(square, true);
        }
        for (int square = 0; square < 7; square++) {
            T.due("17: behind the wall, far(" + square + ")", x.far(square), 99);
        }
    }

    private static void who() {
        SeatsToTheReluctant x = new SeatsToTheReluctant();
        T.due("18: nobody, who(0)", x.who(0), 0);
        T.due("18: nobody, who(1)", x.who(1), 0);
        T.due("18: nobody, who(2)", x.who(2), 0);
        x.person(0, 0, 5, 1, 10);
        x.person(1, 9, 18, 1, 16);
        x.person(2, 0, 11, 1, 2);
        x.person(3, 9, 18, 1, 0);
        x.person(4, 0, 1, 1, 18);
        T.due("18: put out", x.who(1), 8);
        T.due("18: flee", x.who(2), 11);
        x.tell(0, 0, 10);
        T.due("18: flee, the first no more", x.who(2), 10);
        x.tell(0, 0, 5);
        T.due("18: chosen: the furthest, then the first of three alike", x.who(0), 5);
        x.ask(0, 1);
        T.due("18: one seat", x.who(0), 4);
        x.ask(0, 4);
        T.due("18: four seats", x.who(0), 23);
        x.ask(1, 40);
        T.due("18: four seats, nobody put out", x.who(0), 15);
        x.ask(1, 0);
        T.due("18: all put out", x.who(0), 0);
        T.due("18: who is put out", x.who(1), 31);
        x.ask(1, 40);
        x.fence(1, true);
        x.fence(7, true);
        T.due("18: no way from the furthest", x.who(0), 23);
        T.due("18: who(3)", x.who(3), -5);
        T.due("18: who(-1)", x.who(-1), -5);
        T.due("18: status(15)", x.status(15), 2);
        x = new SeatsToTheReluctant();
        x.person(0, 0, 0, 1, 0);
        Due.closeLamp(x);
        T.due("18: no way, nobody", x.who(0), 0);
    }

    private static void status() {
        SeatsToTheReluctant x = new SeatsToTheReluctant();
        x.person(0, 0, 0, 1, 0);
        x.person(2, 0, 0, 1, 48);
        x.fence(10, true);
        x.fence(11, true);
        x.fence(12, true);
        x.ask(0, 3);
        x.ask(1, 30);
        x.run(7);
        x.vote();
        x.vote();
        x.seed(-9);
        x.act(0, 2, 1);
        int[] due = {2, 3, 3, 30, 7, 2, 4, -9, 4};
        for (int what = 0; what < due.length; what++) {
            T.due("41: status(" + what + ")", x.status(what), due[what]);
        }
        int[] other = {-1, 9, 10, 18, 99, MIN, MAX};
        for (int what : other) {
            T.due("41: status(" + what + ")", x.status(what), -1);
        }
        x.row(9, 0, 0);
        x.show(0, 0);
        x.set(0, 0, 0);
        x.set(1, 0, 0);
        x.row(0, 0, -1);
        x.personOf(0, 99);
        x.far(99);
        x.row(0, 0, 999);
        for (int what = 11; what <= 17; what++) {
            T.due("41: one each, status(" + what + ")", x.status(what), 1);
        }
        x.hide(9, 0);
        x.judge(0, 0, 0);
        x.judge(1, 0, 0);
        x.row(1, 0, 0);
        x.judge(1, -1, 0);
        x.judge(1, 1, 0);
        x.judge(1, 0, 31);
        for (int what = 11; what <= 16; what++) {
            T.due("41: -11 to -16 counted with them, status(" + what + ")", x.status(what), 2);
        }
        T.due("41: status(17)", x.status(17), 1);
    }
}
