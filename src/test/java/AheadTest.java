/** Promises 19 to 27 and 30 to 32: what comes of it, and that nothing is changed. */
public final class AheadTest {
    private static final int MIN = Integer.MIN_VALUE;
    private static final int MAX = Integer.MAX_VALUE;
    private static final Due T = new Due("AheadTest");

    public static void main(String[] args) {
        steps();
        paces();
        where();
        chosen();
        hide();
        to();
        spared();
        wanting();
        without();
        fits();
        tells();
        bell();
        crowd();
        judge();
        nothingIsChanged();
        inAnyOrder();
        T.end();
    }

    private static SeatsToTheReluctant one(int kind, int a, int want, int speed, int at) {
        SeatsToTheReluctant x = new SeatsToTheReluctant();
        x.person(kind, a, want, speed, at);
        return x;
    }

    private static void track(String of, SeatsToTheReluctant x, int... squares) {
        for (int n = 0; n < squares.length; n++) {
            T.due("19: " + of + ", where(0, " + n + ")", x.where(0, n), squares[n]);
        }
    }

    private static void steps() {
        track("one who flees", one(0, 0, 9, 1, 24), 24, 17, 10, 3, 2, 1, 0, 0);
        track("one who stays", one(0, 0, 10, 1, 24), 24, 24, 24);
        track("one who goes to it", one(0, 0, 10, 1, 48), 48, 41, 34, 27, 26, 25, 24, 24);
        track("one who goes to it", one(0, 0, 10, 1, 0), 0, 1, 2, 3, 10, 17, 24, 24);
        track("a coward who flees", one(1, 5, 14, 1, 24), 24, 17);
        track("a coward who doesn't", one(1, 5, 15, 1, 25), 25, 24);
        track("one who longs", one(4, 0, 0, 1, 23), 23, 24);
        SeatsToTheReluctant x = one(0, 0, 0, 1, 24);
        x.fence(17, true);
        track("one about whom is a fence", x, 24, 23, 16, 9, 2, 1, 0, 0);
        x.fence(1, true);
        x.fence(7, true);
        track("one who flees no farther than there is a way", x, 24, 23, 16, 9, 2, 3, 3, 3);
        x = one(0, 0, 10, 1, 10);
        x.fence(17, true);
        track("one who goes about a fence", x, 10, 9, 16, 23, 24);
        Due.closeLamp(x);
        track("one whom no way leads to it", x, 10, 10, 10);
        x.tell(0, 0, 0);
        track("one whom no way leads from it", x, 10, 10, 10);
        x.tell(0, 2, 24);
        track("one who is closed in", x, 24, 24);
    }

    private static void paces() {
        int[] along = {24, 17, 10, 3, 2, 1, 0, 0, 0, 0, 0};
        // By kinds: the steps of a yard, by speeds 1 to 4; the fainter's in yard 1.
        int[][] steps = {{1, 2, 3, 4}, {1, 2, 3, 4}, {1, 1, 2, 2}, {1, 2, 3, 4}, null, {1, 1, 2, 2}, {2, 3, 4, 5}};
        for (int kind = 0; kind < 7; kind++) {
            for (int speed = 1; speed <= 4 && kind != 4; speed++) {
                SeatsToTheReluctant x = one(kind, 0, 0, speed, 24);
                int first = kind == 5 ? 0 : steps[kind][speed - 1];
                int second = first + steps[kind][speed - 1];
                track("kind " + kind + " of speed " + speed, x, 24, along[first], along[second]);
            }
        }
        int[] back = {48, 41, 34, 27, 26, 25, 24};
        for (int speed = 1; speed <= 4; speed++) {
            track("a longer of speed " + speed, one(4, 0, 0, speed, 48), 48, back[speed]);
        }
        // A fainter of a 0 faints in yards 0, 2, 4; of a 1 in yards 0, 3, 6.
        track("a fainter of 0", one(5, 0, 0, 1, 24), 24, 24, 17, 17, 10, 10, 3);
        track("a fainter of 1", one(5, 1, 0, 1, 24), 24, 24, 17, 10, 10, 3, 2, 2);
        track("a fainter of 9", one(5, 9, 0, 1, 24), 24, 24, 17, 10, 3, 2, 1, 0, 0);
        SeatsToTheReluctant x = one(5, 1, 0, 1, 24);
        x.run(2);
        T.due("19: the yards in truth are counted", x.where(0, 0), 17);
        track("a fainter of 1 behind 2 yards", x, 17, 10, 10, 3, 2, 2);
    }

    private static void where() {
        SeatsToTheReluctant x = one(0, 0, 0, 1, 24);
        T.due("19: where(0, 30)", x.where(0, 30), 0);
        T.due("19: where(1, 31)", x.where(1, 31), -1);
        T.due("19: where(-1, 0)", x.where(-1, 0), -1);
        T.due("19: where(0, 31)", x.where(0, 31), -6);
        T.due("19: where(0, -1)", x.where(0, -1), -6);
        T.due("19: where(0, MIN)", x.where(0, MIN), -6);
        T.due("19: status(11)", x.status(11), 2);
        T.due("19: status(16)", x.status(16), 3);
    }

    private static void chosen() {
        SeatsToTheReluctant x = new SeatsToTheReluctant();
        T.due("20: nobody", x.chosen(30), 0);
        x.person(0, 0, 10, 1, 0);
        x.person(0, 0, 0, 2, 24);
        x.person(4, 0, 0, 1, 6);
        T.due("20: chosen(0): 6, 0, 6", x.chosen(0), 5);
        T.due("20: chosen(1): 5, 2, 5", x.chosen(1), 5);
        T.due("20: chosen(2): 4, 4, 4", x.chosen(2), 3);
        T.due("20: chosen(3): 3, 6, 3", x.chosen(3), 3);
        x.ask(0, 1);
        T.due("20: one seat", x.chosen(3), 2);
        x.ask(0, 4);
        T.due("20: seats for all", x.chosen(3), 7);
        x.ask(1, 9);
        T.due("20: one put out", x.chosen(3), 6);
        T.due("20: chosen(31)", x.chosen(31), -6);
        T.due("20: chosen(-1)", x.chosen(-1), -6);
        T.due("20: status(16)", x.status(16), 2);
    }

    private static void hide() {
        SeatsToTheReluctant x = one(0, 0, 20, 1, 24);
        int[] due = {24, 17, 10, 3, 2, 1, 0, 0};
        for (int n = 0; n < due.length; n++) {
            T.due("21: hide(0, " + n + ")", x.hide(0, n), due[n]);
        }
        T.due("21: hide(0, 30)", x.hide(0, 30), 0);
        x.tell(0, 2, 48);
        T.due("21: he stays at the furthest", x.hide(0, 5), 48);
        T.due("21: of several the least", x.hide(0, 12), 0);
        T.due("21: in fewer steps the next", x.hide(0, 11), 6);
        x.fence(41, true);
        x.fence(47, true);
        T.due("21: nowhere", x.hide(0, 30), -1);
        x = one(0, 0, 20, 1, 24);
        Due.closeLamp(x);
        T.due("21: nowhere else", x.hide(0, 30), 24);
        T.due("21: hide(1, 99)", x.hide(1, 99), -11);
        T.due("21: hide(-1, 0)", x.hide(-1, 0), -11);
        T.due("21: hide(0, 31)", x.hide(0, 31), -16);
        T.due("21: hide(0, -1)", x.hide(0, -1), -16);
        T.due("21: status(11)", x.status(11), 2);
        T.due("21: status(16)", x.status(16), 2);
    }

    private static void to() {
        SeatsToTheReluctant x = one(4, 0, 0, 1, 0);
        for (int square = 0; square < 49; square++) {
            T.due("22: to(0, " + square + ")", x.to(0, square), square / 7 + square % 7);
        }
        x.fence(1, true);
        x.fence(8, true);
        T.due("22: about fences", x.to(0, 2), 6);
        T.due("22: to a fence", x.to(0, 8), -16);
        x.fence(7, true);
        T.due("22: no way", x.to(0, 2), -1);
        T.due("22: where he is", x.to(0, 0), 0);
        T.due("22: to(1, 99)", x.to(1, 99), -11);
        T.due("22: to(-1, 0)", x.to(-1, 0), -11);
        T.due("22: to(0, 49)", x.to(0, 49), -16);
        T.due("22: to(0, -1)", x.to(0, -1), -16);
        T.due("22: status(11)", x.status(11), 2);
        T.due("22: status(16)", x.status(16), 3);
    }

    private static void spared() {
        SeatsToTheReluctant x = one(0, 0, 0, 1, 0);
        T.due("23: none", x.spared(0, 0), -1);
        x.fence(1, true);
        T.due("23: the last way", x.spared(0, 0), 7);
        x.fence(7, true);
        T.due("23: he isn't chosen anyway, 0 is his and 1 fenced", x.spared(0, 0), 2);
        x.person(0, 0, 0, 1, 2);
        T.due("23: nor where somebody is", x.spared(0, 0), 3);
        x = one(0, 0, 20, 1, 48);
        x.ask(1, 19);
        T.due("23: put out", x.spared(0, 30), 0);
        // At 10 with one seat: somebody else is further.
        x = one(0, 0, 0, 1, 10);
        x.ask(0, 1);
        x.person(0, 0, 20, 1, 4);
        T.due("23: not chosen anyway", x.spared(0, 0), 0);
        x.person(0, 0, 20, 1, 5);
        x.tell(1, 2, 24);
        x.tell(2, 2, 24);
        // Now he alone is away from it, and one fence doesn't close him in.
        T.due("23: none", x.spared(0, 0), -1);
        x.fence(3, true);
        x.fence(9, true);
        x.fence(11, true);
        T.due("23: the one way he has", x.spared(0, 0), 17);
        T.due("23: spared(3, 99)", x.spared(3, 99), -11);
        T.due("23: spared(-1, 0)", x.spared(-1, 0), -11);
        T.due("23: spared(0, 31)", x.spared(0, 31), -16);
        T.due("23: spared(0, -1)", x.spared(0, -1), -16);
        T.due("23: status(11)", x.status(11), 2);
        T.due("23: status(16)", x.status(16), 2);
        // Behind a yard: from 24 with one way out, which a fence closes; at the lamp he is chosen still.
        x = one(0, 0, 0, 1, 24);
        x.person(0, 0, 20, 1, 10);
        x.ask(0, 1);
        x.fence(17, true);
        x.fence(23, true);
        x.fence(25, true);
        // The other goes to the lamp by 9, 8, 15, 22, 29, 30, 31; he flees from it by 31 and 30.
        T.due("23: the other, behind 2 yards", x.where(1, 2), 8);
        T.due("23: he, behind 2 yards", x.where(0, 2), 30);
        T.due("23: chosen behind 2", x.chosen(2), 2);
        T.due("23: not chosen anyway, behind 2", x.spared(0, 2), 0);
        T.due("23: chosen behind 8", x.chosen(8), 1);
        T.due("23: closed in, he is chosen still", x.spared(0, 8), spareByHand(x, 0, 8));
        T.due("23: and the other", x.spared(1, 2), spareByHand(x, 1, 2));
    }

    /** The same by fences in truth, taken away again. */
    private static int spareByHand(SeatsToTheReluctant x, int person, int n) {
        for (int square = 0; square < 49; square++) {
            if (square == 24 || x.squareOf(square, 0) == 1 || x.squareOf(square, 1) != 0) {
                continue;
            }
            x.fence(square, true);
            boolean chosen = (x.chosen(n) >> person & 1) == 1;
            x.fence(square, false);
            if (!chosen) {
                return square;
            }
        }
        return -1;
    }

    private static void wanting() {
        SeatsToTheReluctant x = one(0, 0, 20, 1, 24);
        T.due("24: least", x.wanting(0, 0, 0), 0);
        T.due("24: greatest", x.wanting(0, 0, 1), 20);
        x.ask(1, 5);
        T.due("24: greatest by scent", x.wanting(0, 0, 1), 5);
        x = one(3, 9, 0, 1, 24);
        x.ask(1, 8);
        T.due("24: none, least", x.wanting(0, 3, 0), -1);
        T.due("24: none, greatest", x.wanting(0, 3, 1), -1);
        x = one(0, 0, 0, 1, 0);
        x.person(0, 0, 0, 1, 24);
        x.ask(0, 1);
        T.due("24: ahead by number, least", x.wanting(0, 30, 0), 0);
        T.due("24: ahead by number, greatest", x.wanting(0, 30, 1), 9);
        T.due("24: behind by number", x.wanting(1, 30, 0), -1);
        x.tell(0, 2, 8);
        x.tell(0, 0, 20);
        x.tell(1, 2, 41);
        // Behind 1 yard the first is at 9, far 3; the second at 34 or 40 (far 4) or at 48 (far 6).
        T.due("24: all wants, least", x.wanting(1, 1, 0), 0);
        T.due("24: all wants, greatest", x.wanting(1, 1, 1), 20);
        x = one(0, 0, 9, 1, 25);
        x.person(0, 0, 12, 1, 11);
        x.ask(0, 1);
        // Behind 1 yard the first is at 18, far 2, or at 24; the second at 17 or 25, far 1.
        x.tell(1, 2, 18);
        T.due("24: he must flee, least", x.wanting(1, 1, 0), 0);
        T.due("24: he must flee, greatest", x.wanting(1, 1, 1), 9);
        T.due("24: who mustn't flee: none such", x.wanting(0, 0, 0), -1);
        T.due("24: wanting(2, 99, 9)", x.wanting(2, 99, 9), -11);
        T.due("24: wanting(-1, 0, 0)", x.wanting(-1, 0, 0), -11);
        T.due("24: wanting(0, 99, 2)", x.wanting(0, 99, 2), -15);
        T.due("24: wanting(0, 0, -1)", x.wanting(0, 0, -1), -15);
        T.due("24: wanting(0, 31, 1)", x.wanting(0, 31, 1), -16);
        T.due("24: wanting(0, -1, 0)", x.wanting(0, -1, 0), -16);
        T.due("24: status(11)", x.status(11), 2);
        T.due("24: status(15)", x.status(15), 2);
        T.due("24: status(16)", x.status(16), 2);
        // Whom the dogs let be only where he wants little.
        x = one(4, 0, 20, 1, 0);
        x.ask(1, 7);
        T.due("24: a longer, least", x.wanting(0, 3, 0), 0);
        T.due("24: a longer, greatest", x.wanting(0, 3, 1), 7);
        x = one(6, 2, 20, 1, 0);
        T.due("24: a clerk, greatest", x.wanting(0, 3, 1), 15);
        x = one(2, 2, 0, 1, 0);
        x.ask(1, 4);
        T.due("24: a lady, greatest", x.wanting(0, 3, 1), 9);
        // Two closed in at 23 and 24, beside one another.
        x = one(0, 0, 0, 1, 23);
        x.person(0, 0, 9, 1, 24);
        x.fence(17, true);
        x.fence(25, true);
        x.fence(31, true);
        x.fence(16, true);
        x.fence(30, true);
        x.fence(22, true);
        x.ask(0, 1);
        T.due("24: closed in, least", x.wanting(1, 1, 0), -1);
        x.tell(0, 0, 10);
        T.due("24: closed in, the other gone to it, least", x.wanting(1, 1, 0), 0);
        T.due("24: closed in, the other gone to it, greatest", x.wanting(1, 1, 1), 9);
    }

    private static void without() {
        SeatsToTheReluctant x = one(0, 0, 0, 1, 0);
        x.person(0, 0, 0, 1, 1);
        x.person(0, 0, 0, 1, 2);
        x.person(0, 0, 20, 1, 3);
        T.due("25: without(0, 0)", x.without(0, 0), 6);
        T.due("25: without(1, 0)", x.without(1, 0), 5);
        T.due("25: without(2, 0)", x.without(2, 0), 3);
        x.ask(0, 4);
        T.due("25: fewer", x.without(0, 0), 14);
        T.due("25: without(4, 99)", x.without(4, 99), -1);
        T.due("25: without(-1, 0)", x.without(-1, 0), -1);
        T.due("25: without(0, 31)", x.without(0, 31), -6);
        T.due("25: without(0, -1)", x.without(0, -1), -6);
        x.ask(0, 1);
        T.due("25: behind yards", x.without(0, 2), 2);
        x.ask(1, 19);
        x.ask(0, 4);
        T.due("25: one put out", x.without(0, 2), 6);
    }

    private static void fits() {
        SeatsToTheReluctant x = one(0, 0, 0, 1, 24);
        Due.put(x, 0, 17, 10, 3);
        T.due("26: wants that flee", x.fits(0, 0, 3, 0), 1023);
        T.due("26: kinds by 1", x.fits(0, 0, 1, 1), 15);
        T.due("26: kinds by 0", x.fits(0, 0, 0, 1), 127);
        T.due("26: wants by 0", x.fits(0, 0, 0, 0), 2097151);
        Due.put(x, 0, 24, 24);
        T.due("26: wants that stay", x.fits(0, 0, 2, 0), 2096128);
        T.due("26: kinds that stay 1", x.fits(0, 0, 1, 1), 48);
        T.due("26: kinds that stay 2", x.fits(0, 0, 2, 1), 16);
        Due.put(x, 0, 10, 2);
        T.due("26: a clerk", x.fits(0, 0, 2, 1), 64);
        Due.put(x, 0, 17, 24);
        T.due("26: none", x.fits(0, 0, 2, 1), 0);
        Due.put(x, 0, 24, 17);
        T.due("26: a fainter", x.fits(0, 0, 2, 1), 32);
        // In yard 1 and not in yard 0 one of a 1 runs, and faints in yard 3.
        SeatsToTheReluctant y = one(5, 1, 0, 1, 24);
        y.run(1);
        Due.put(y, 0, 17, 10, 10, 3);
        T.due("26: a fainter behind a yard in truth", y.fits(0, 0, 4, 0), 1023);
        x.row(1, 3, 31);
        for (int i = 0; i < 31; i++) {
            x.set(1, i, 0x500000000L + (i < 3 ? 17 - 7 * i : i < 6 ? 5 - i : 0));
        }
        T.due("26: 30 of the lowest 32 bits", x.fits(1, 0, 30, 0), 1023);
        x.show(2, 0);
        T.due("26: fits(8, 0, -1, 9)", x.fits(8, 0, -1, 9), -1);
        T.due("26: fits(-1, 0, 0, 0)", x.fits(-1, 0, 0, 0), -1);
        T.due("26: fits(2, 1, 0, 0)", x.fits(2, 1, 0, 0), -1);
        T.due("26: fits(2, -1, 0, 0)", x.fits(2, -1, 0, 0), -1);
        T.due("26: fits(2, 0, -1, 9)", x.fits(2, 0, -1, 9), -2);
        T.due("26: fits(3, 0, -1, 9)", x.fits(3, 0, -1, 9), -3);
        T.due("26: fits(0, 0, -1, 9)", x.fits(0, 0, -1, 9), -4);
        T.due("26: fits(0, 0, 3, 0)", x.fits(0, 0, 3, 0), -5);
        T.due("26: fits(0, 0, 2, 2)", x.fits(0, 0, 2, 2), -5);
        T.due("26: fits(0, 0, 2, -1)", x.fits(0, 0, 2, -1), -5);
        T.due("26: fits(1, 0, 32, 0)", x.fits(1, 0, 32, 0), -5);
        T.due("26: fits(1, 0, 31, 2)", x.fits(1, 0, 31, 2), -5);
        T.due("26: fits(1, 0, 31, 1)", x.fits(1, 0, 31, 1), -6);
        int[] counts = {4, 1, 1, 1, 5, 1, 0};
        for (int i = 0; i < counts.length; i++) {
            T.due("26: status(" + (11 + i) + ")", x.status(11 + i), counts[i]);
        }
    }

    private static void tells() {
        SeatsToTheReluctant x = one(0, 0, 0, 1, 24);
        T.due("27: at once, n", x.tells(0, 0), 1);
        T.due("27: at once, how many", x.tells(0, 1), 2);
        x = one(5, 3, 0, 1, 24);
        T.due("27: a fainter, n", x.tells(0, 0), 2);
        T.due("27: a fainter, how many", x.tells(0, 1), 2);
        x = one(4, 3, 0, 1, 20);
        T.due("27: a longer, n", x.tells(0, 0), 1);
        SeatsToTheReluctant y = one(5, 3, 0, 1, 24);
        y.run(4);
        T.due("27: a fainter in the yards in truth", y.tells(0, 0), 1);
        T.due("27: a longer, how many", x.tells(0, 1), 1);
        x = one(1, 9, 0, 1, 20);
        T.due("27: a coward of 9, how many", x.tells(0, 1), 2);
        x = one(0, 0, 0, 1, 24);
        Due.closeLamp(x);
        T.due("27: closed in, n", x.tells(0, 0), 1);
        T.due("27: closed in, how many", x.tells(0, 1), 1);
        T.due("27: tells(1, 9)", x.tells(1, 9), -1);
        T.due("27: tells(-1, 0)", x.tells(-1, 0), -1);
        T.due("27: tells(0, 2)", x.tells(0, 2), -5);
        T.due("27: tells(0, -1)", x.tells(0, -1), -5);
        T.due("27: status(11)", x.status(11), 2);
        T.due("27: status(15)", x.status(15), 2);
    }

    private static void bell() {
        SeatsToTheReluctant x = one(0, 0, 0, 1, 0);
        T.due("30: who smells of nothing", x.bell(0), -1);
        x.person(3, 9, 20, 1, 0);
        x.person(0, 0, 5, 1, 0);
        x.person(6, 9, 20, 1, 0);
        x.person(2, 0, 11, 1, 0);
        // Smells 0, 29, 5, 32, 5.
        T.due("30: bell(1)", x.bell(1), 5);
        T.due("30: bell(2)", x.bell(2), 0);
        T.due("30: bell(3)", x.bell(3), 29);
        T.due("30: bell(4)", x.bell(4), 0);
        x.tell(2, 0, 3);
        T.due("30: bell(4)", x.bell(4), 3);
        T.due("30: bell(5)", x.bell(5), -11);
        T.due("30: bell(-1)", x.bell(-1), -11);
        T.due("30: status(11)", x.status(11), 2);
        T.due("30: the scent is as it was", x.status(3), 20);
    }

    private static void crowd() {
        SeatsToTheReluctant x = new SeatsToTheReluctant();
        T.due("31: nobody", x.crowd(0, 0), -1);
        T.due("31: nobody, last", x.crowd(0, 1), -1);
        x.person(0, 0, 20, 1, 48);
        x.person(0, 0, 0, 1, 8);
        x.person(0, 0, 20, 1, 40);
        T.due("31: of several the first", x.crowd(0, 0), 8);
        T.due("31: last", x.crowd(0, 1), 0);
        T.due("31: behind 30", x.crowd(30, 0), 24);
        T.due("31: last behind 30", x.crowd(30, 1), 1);
        x.ask(1, 0);
        x.tell(1, 2, 24);
        T.due("31: put out or not", x.crowd(0, 1), 0);
        T.due("31: last of several", x.crowd(3, 1), 0);
        x.tell(2, 2, 48);
        T.due("31: two at one", x.crowd(0, 0), 48);
        x.fence(41, true);
        x.fence(47, true);
        T.due("31: no way", x.crowd(0, 1), 1);
        x.tell(1, 2, 48);
        T.due("31: no way, none", x.crowd(0, 1), -1);
        T.due("31: crowd(99, 2)", x.crowd(99, 2), -15);
        T.due("31: crowd(0, -1)", x.crowd(0, -1), -15);
        T.due("31: crowd(31, 0)", x.crowd(31, 0), -16);
        T.due("31: crowd(-1, 1)", x.crowd(-1, 1), -16);
        T.due("31: status(15)", x.status(15), 2);
        T.due("31: status(16)", x.status(16), 2);
    }

    private static void judge() {
        SeatsToTheReluctant x = one(0, 0, 0, 1, 24);
        x.person(0, 0, 20, 1, 48);
        Due.put(x, 0, 17, 41, 9);
        T.due("32: right", x.judge(0, 2, 1), -1);
        T.due("32: the first", x.judge(0, 2, 0), 0);
        T.due("32: k 0", x.judge(0, 0, 0), -1);
        Due.put(x, 0, 24, 41, 9);
        T.due("32: the second", x.judge(0, 2, 0), 1);
        T.due("32: the second isn't told", x.judge(0, 1, 0), -1);
        x.row(1, 3, 2);
        x.set(1, 0, 0x900000018L);
        T.due("32: the lowest 32 bits", x.judge(1, 1, 0), -1);
        x.show(2, 0);
        T.due("32: judge(8, -1, 99)", x.judge(8, -1, 99), -11);
        T.due("32: judge(-1, 0, 0)", x.judge(-1, 0, 0), -11);
        T.due("32: judge(2, -1, 99)", x.judge(2, -1, 99), -12);
        T.due("32: judge(3, -1, 99)", x.judge(3, -1, 99), -13);
        T.due("32: judge(0, -1, 99)", x.judge(0, -1, 99), -14);
        T.due("32: judge(0, 4, 99)", x.judge(0, 4, 99), -15);
        T.due("32: judge(0, 3, 0)", x.judge(0, 3, 0), -16);
        T.due("32: judge(0, 0, 31)", x.judge(0, 0, 31), -16);
        T.due("32: judge(0, 0, -1)", x.judge(0, 0, -1), -16);
        int[] counts = {2, 1, 1, 1, 1, 3, 0};
        for (int i = 0; i < counts.length; i++) {
            T.due("32: status(" + (11 + i) + ")", x.status(11 + i), counts[i]);
        }
    }

    private static void nothingIsChanged() {
        SeatsToTheReluctant x = new SeatsToTheReluctant();
        for (int kind = 0; kind < 7; kind++) {
            x.person(kind, kind, 2 * kind, 1 + kind % 4, 7 * kind);
        }
        Due.put(x, 0, 1, 2);
        for (int p = 0; p < 7; p++) {
            x.where(p, 9);
            x.hide(p, 9);
            x.to(p, 3);
            x.spared(p, 3);
            x.wanting(p, 3, 0);
            x.without(p, 3);
            x.fits(0, p, 2, 0);
            x.fits(0, p, 2, 1);
            x.tells(p, 0);
            x.bell(p);
            x.power(p, 127);
        }
        x.chosen(9);
        x.carries(127);
        x.crowd(9, 0);
        x.judge(0, 2, 9);
        for (int p = 0; p < 7; p++) {
            int[] due = {p, p, 2 * p, 1 + p % 4, 7 * p, 0};
            for (int what = 0; what < due.length; what++) {
                T.due("personOf(" + p + ", " + what + ")", x.personOf(p, what), due[what]);
            }
        }
        int[] due = {7, 0, 2, 20, 0, 0, 0, 1, 0};
        for (int what = 0; what < due.length; what++) {
            T.due("status(" + what + ")", x.status(what), due[what]);
        }
        T.due("MAX", x.where(0, MAX), -6);
    }

    interface Asking {
        long of(SeatsToTheReluctant x);
    }

    private static SeatsToTheReluctant port() {
        SeatsToTheReluctant x = new SeatsToTheReluctant();
        int[] squares = {24, 0, 23, 41, 41, 12, 30};
        int[] wants = {20, 1, 19, 3, 8, 5, 12};
        for (int p = 0; p < 7; p++) {
            x.person((p + 5) % 7, p, wants[p], 1 + p % 4, squares[p]);
        }
        x.fence(16, true);
        x.fence(31, true);
        x.run(3);
        Due.put(x, 0, 24, 8, 24, 5);
        Due.write(x, 1, "seats 9");
        return x;
    }

    /** What a call answers doesn't hang on what else has been asked ahead of it. */
    private static void inAnyOrder() {
        Asking[] askings = {
            x -> x.far(20), x -> x.who(0), x -> x.who(1), x -> x.who(2), x -> x.where(1, 5), x -> x.where(4, 2),
            x -> x.chosen(0), x -> x.chosen(7), x -> x.hide(3, 4), x -> x.to(5, 42), x -> x.to(2, 6),
            x -> x.spared(3, 2), x -> x.spared(1, 0), x -> x.wanting(3, 2, 0), x -> x.wanting(4, 9, 1),
            x -> x.without(3, 0), x -> x.without(5, 3), x -> x.fits(0, 0, 1, 0), x -> x.fits(0, 3, 2, 1),
            x -> x.tells(4, 0), x -> x.tells(5, 1), x -> x.power(2, 109), x -> x.carries(95), x -> x.bell(6),
            x -> x.crowd(0, 0), x -> x.crowd(3, 0), x -> x.crowd(0, 1), x -> x.crowd(3, 1), x -> x.judge(0, 4, 0),
            x -> x.judge(0, 1, 1), x -> x.port(1), x -> x.vote(), x -> x.act(5, 2, 77)
        };
        for (int i = 0; i < askings.length; i++) {
            long due = askings[i].of(port());
            for (int j = 0; j < askings.length; j++) {
                SeatsToTheReluctant x = port();
                // A vote changes what is.
                if (j != askings.length - 2) {
                    askings[j].of(x);
                    T.due("asking " + i + " behind asking " + j, askings[i].of(x), due);
                }
            }
        }
    }
}
