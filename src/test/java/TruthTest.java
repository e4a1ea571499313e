/** Promises 33 to 36, 39 and 40: yards, votes and years in truth, the seed, and the image. */
public final class TruthTest {
    private static final int MIN = Integer.MIN_VALUE;
    private static final int MAX = Integer.MAX_VALUE;
    private static final Due T = new Due("TruthTest");

    public static void main(String[] args) {
        run();
        vote();
        years();
        yearsByOthers();
        seed();
        image();
        restore();
        T.end();
    }

    private static void run() {
        SeatsToTheReluctant x = new SeatsToTheReluctant();
        T.due("33: nobody", x.run(1), 1);
        x.person(0, 0, 0, 1, 24);
        x.person(5, 0, 0, 1, 24);
        x.person(6, 0, 20, 2, 48);
        T.due("33: run(2)", x.run(2), 3);
        T.due("33: at", x.personOf(0, 4), 10);
        T.due("33: a fainter, in yards 1 and 2", x.personOf(1, 4), 17);
        T.due("33: a clerk", x.personOf(2, 4), 24);
        T.due("33: run(30)", x.run(30), 33);
        T.due("33: at", x.personOf(0, 4), 0);
        T.due("33: run(0)", x.run(0), -6);
        T.due("33: run(31)", x.run(31), -6);
        T.due("33: run(-1)", x.run(-1), -6);
        T.due("33: run(MIN)", x.run(MIN), -6);
        T.due("33: run(MAX)", x.run(MAX), -6);
        T.due("33: status(4)", x.status(4), 33);
        T.due("33: status(16)", x.status(16), 5);
    }

    private static void vote() {
        SeatsToTheReluctant x = new SeatsToTheReluctant();
        T.due("34: nobody", x.vote(), 0);
        T.due("34: status(5)", x.status(5), 1);
        x.person(0, 0, 0, 1, 0);
        x.person(0, 0, 20, 1, 1);
        x.person(4, 0, 0, 1, 2);
        T.due("34: vote()", x.vote(), 3);
        T.due("34: at, 0", x.personOf(0, 4), 24);
        T.due("34: at, 1", x.personOf(1, 4), 24);
        T.due("34: at, 2", x.personOf(2, 4), 2);
        T.due("34: vote() again", x.vote(), 5);
        T.due("34: sat, 0", x.personOf(0, 5), 2);
        T.due("34: sat, 1", x.personOf(1, 5), 1);
        T.due("34: sat, 2", x.personOf(2, 5), 1);
        T.due("34: status(5)", x.status(5), 3);
        T.due("34: status(6)", x.status(6), 4);
        T.due("34: no yard has gone", x.status(4), 0);
        x.ask(1, 0);
        T.due("34: who doesn't smell", x.vote(), 5);
        // Behind a yard the two would be alike; now the second is further.
        x = new SeatsToTheReluctant();
        x.person(0, 0, 0, 1, 3);
        x.person(0, 0, 20, 4, 2);
        x.ask(0, 1);
        T.due("34: behind a yard", x.chosen(1), 1);
        T.due("34: now", x.vote(), 2);
    }

    // The draws written out once more: the state is a long, whose lowest 32 bits are the seed.
    private static long state;

    private static int draw(int n) {
        state = (state * 1103515245L + 12345L) & 0xFFFFFFFFL;
        return (int) ((state >> 16) % n);
    }

    private static void years() {
        SeatsToTheReluctant x = new SeatsToTheReluctant();
        T.due("35: nobody", x.years(0), -5);
        T.due("35: nobody", x.years(41), -5);
        x.person(4, 0, 0, 1, 0);
        x.person(4, 0, 0, 4, 48);
        T.due("35: years(0)", x.years(0), -6);
        T.due("35: years(41)", x.years(41), -6);
        T.due("35: years(MIN)", x.years(MIN), -6);
        T.due("35: status(15)", x.status(15), 2);
        T.due("35: status(16)", x.status(16), 3);
        // 1 becomes 1103527590, of which the upper 16 bits are 16838: 0 of two; then 38526, 12 of 21;
        // then 10113, 3 of 5, so 4 yards.
        T.due("35: years(1)", x.years(1), 1);
        T.due("35: whose want", x.personOf(0, 2), 12);
        T.due("35: whose isn't", x.personOf(1, 2), 0);
        T.due("35: yards", x.status(4), 4);
        T.due("35: votes", x.status(5), 1);
        T.due("35: sat", x.status(6), 2);
        T.due("35: at the lamp", x.personOf(0, 4), 24);
        T.due("35: years(40)", x.years(40), 41);
        T.due("35: votes in all", x.status(5), 41);
    }

    /** Years as the calls that a year is made of. */
    private static void yearsByOthers() {
        int[] seeds = {1, 0, -1, 77, MIN, MAX, 123456789};
        for (int seed : seeds) {
            SeatsToTheReluctant x = new SeatsToTheReluctant();
            SeatsToTheReluctant y = new SeatsToTheReluctant();
            for (int kind = 0; kind < 7; kind++) {
                x.person(kind, kind, kind * 3, 1 + kind % 4, kind * 5);
                y.person(kind, kind, kind * 3, 1 + kind % 4, kind * 5);
            }
            x.seed(seed);
            state = seed & 0xFFFFFFFFL;
            for (int round = 0; round < 5; round++) {
                for (int year = 0; year < 4; year++) {
                    int person = draw(7);
                    y.tell(person, 0, draw(21));
                    y.run(draw(5) + 1);
                    y.vote();
                }
                T.due("35: years(4)", x.years(4), y.status(5));
                T.due("35: seed", x.status(7), (int) state);
                for (int what = 0; what <= 6; what++) {
                    T.due("35: status(" + what + ")", x.status(what), y.status(what));
                }
                for (int p = 0; p < 7; p++) {
                    for (int what = 0; what <= 8; what++) {
                        T.due("35: personOf(" + p + ", " + what + ")", x.personOf(p, what), y.personOf(p, what));
                    }
                }
            }
        }
    }

    private static void seed() {
        SeatsToTheReluctant x = new SeatsToTheReluctant();
        T.due("36: seed(MIN)", x.seed(MIN), 1);
        T.due("36: seed(-1)", x.seed(-1), MIN);
        T.due("36: status(7)", x.status(7), -1);
        T.due("36: seed(1)", x.seed(1), -1);
    }

    private static void image() {
        SeatsToTheReluctant x = new SeatsToTheReluctant();
        T.due("39: image() of nobody", x.image(), 0);
        x.person(0, 0, 0, 1, 24);
        T.due("39: image()", x.image(), 1);
        x.person(0, 0, 0, 1, 24);
        T.due("39: the latest image", x.restore(), 1);
        T.due("39: status(0)", x.status(0), 1);
    }

    private static void restore() {
        SeatsToTheReluctant x = new SeatsToTheReluctant();
        T.due("40: there is none", x.restore(), -6);
        x.person(1, 2, 3, 4, 5);
        x.person(4, 5, 6, 1, 8);
        x.fence(40, true);
        x.ask(0, 3);
        x.ask(1, 33);
        x.run(5);
        x.vote();
        x.seed(99);
        int[] kept = new int[8];
        int[][] people = new int[2][6];
        keep(x, kept, people);
        T.due("40: image()", x.image(), 2);
        x.person(0, 0, 0, 1, 24);
        x.show(0, 2);
        x.show(1, 1);
        Due.put(x, 2, 7, 8);
        x.fence(41, true);
        x.fence(40, false);
        x.ask(0, 1);
        x.ask(1, 0);
        x.years(9);
        x.tell(0, 0, 20);
        x.tell(0, 1, 1);
        x.tell(1, 2, 48);
        x.act(0, 0, 5);
        Due.write(x, 3, "open !");
        x.port(3);
        T.due("40: restore()", x.restore(), 2);
        asKept(x, kept, people);
        T.due("40: one who isn't there now", x.holds(0), -1);
        T.due("40: one who is", x.holds(1), 1);
        T.due("40: what he says", x.says(1, 0), people[1][4]);
        T.due("40: a row", x.holds(2), 102);
        T.due("40: its element", x.element(2, 1), 8);
        T.due("40: the fault", x.fault(), 5);
        T.due("40: the trace", x.trace(0), 20);
        T.due("40: bodies", x.status(8), 2);
        T.due("40: refusals", x.status(16), 2);
        T.due("40: a new one has that number", x.person(0, 0, 0, 1, 0), 2);
        T.due("40: he has never sat", x.personOf(2, 5), 0);
        x.years(3);
        T.due("40: restore() again", x.restore(), 2);
        asKept(x, kept, people);
    }

    private static void keep(SeatsToTheReluctant x, int[] kept, int[][] people) {
        for (int what = 0; what < kept.length; what++) {
            kept[what] = x.status(what);
        }
        for (int p = 0; p < people.length; p++) {
            for (int what = 0; what < 6; what++) {
                people[p][what] = x.personOf(p, what);
            }
        }
    }

    private static void asKept(SeatsToTheReluctant x, int[] kept, int[][] people) {
        for (int what = 0; what < kept.length; what++) {
            T.due("40: status(" + what + ")", x.status(what), kept[what]);
        }
        for (int p = 0; p < people.length; p++) {
            for (int what = 0; what < 6; what++) {
                T.due("40: personOf(" + p + ", " + what + ")", x.personOf(p, what), people[p][what]);
            }
        }
        T.due("40: squareOf(40, 0)", x.squareOf(40, 0), 1);
        T.due("40: squareOf(41, 0)", x.squareOf(41, 0), 0);
    }
}
