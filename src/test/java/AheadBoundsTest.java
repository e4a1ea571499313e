/** The bounds that "Terms" 3 names, sentence by sentence: what comes of it, the council, votes, truth, moves. */
public final class AheadBoundsTest {
    private static final int MIN = Integer.MIN_VALUE;
    private static final int MAX = Integer.MAX_VALUE;
    private static final int[] NO_YARDS = {-1, 31, MIN, MAX};
    private static final Due T = new Due("AheadBoundsTest");

    public static void main(String[] args) {
        ahead();
        hide();
        to();
        spared();
        sparedAnyway();
        wanting();
        without();
        fits();
        fitsBetweenTheEnds();
        tells();
        power();
        carries();
        bell();
        crowd();
        last();
        judge();
        run();
        years();
        image();
        moves();
        trace();
        status();
        T.end();
    }

    private static SeatsToTheReluctant one(int kind, int a, int want, int speed, int at) {
        SeatsToTheReluctant x = new SeatsToTheReluctant();
        x.person(kind, a, want, speed, at);
        return x;
    }

    private static SeatsToTheReluctant council(int... a) {
        SeatsToTheReluctant x = new SeatsToTheReluctant();
        for (int his : a) {
            x.person(0, his, 0, 1, 0);
        }
        return x;
    }

    /** AHEAD n YARDS (0 to 30). */
    private static void ahead() {
        SeatsToTheReluctant x = one(5, 9, 0, 1, 24);
        // He faints in yards 0, 11 and 22, and is at the furthest behind the sixth step.
        int[] due = {24, 24, 17, 10, 3, 2, 1, 0, 0};
        for (int n = 0; n < due.length; n++) {
            T.due("19: where(0, " + n + ")", x.where(0, n), due[n]);
        }
        T.due("19: where(0, 30)", x.where(0, 30), 0);
        T.due("20: chosen(0)", x.chosen(0), 1);
        T.due("20: chosen(30)", x.chosen(30), 1);
        for (int n : NO_YARDS) {
            T.due("19: where(0, " + n + ")", x.where(0, n), -6);
            T.due("20: chosen(" + n + ")", x.chosen(n), -6);
            T.due("21: hide(0, " + n + ")", x.hide(0, n), -16);
            T.due("23: spared(0, " + n + ")", x.spared(0, n), -16);
            T.due("24: wanting(0, " + n + ", 0)", x.wanting(0, n, 0), -16);
            T.due("24: wanting(0, " + n + ", 1)", x.wanting(0, n, 1), -16);
            T.due("25: without(0, " + n + ")", x.without(0, n), -6);
            T.due("31: crowd(" + n + ", 0)", x.crowd(n, 0), -16);
            T.due("31: crowd(" + n + ", 1)", x.crowd(n, 1), -16);
        }
        T.due("41: counted", x.status(16), 9 * NO_YARDS.length);
    }

    /** HIDE: the greatest FAR (below 99) by as many steps at most, of several the least; NONE. */
    private static void hide() {
        SeatsToTheReluctant x = one(4, 0, 20, 4, 27);
        // Of corners 6 and 48 as far from 27 as one another.
        T.due("21: no step", x.hide(0, 0), 27);
        T.due("21: one step, of 20 and 34", x.hide(0, 1), 20);
        T.due("21: three steps, of 6 and 48", x.hide(0, 3), 6);
        T.due("21: eight steps, none further", x.hide(0, 8), 6);
        T.due("21: nine steps, the least corner", x.hide(0, 9), 0);
        T.due("21: thirty steps", x.hide(0, 30), 0);
        x.tell(0, 2, 48);
        T.due("21: eleven steps, 6 and not 0", x.hide(0, 11), 6);
        T.due("21: twelve steps", x.hide(0, 12), 0);
        x = one(0, 0, 0, 1, 24);
        Due.closeLamp(x);
        T.due("21: at the lamp, FAR 0", x.hide(0, 30), 24);
        x.tell(0, 2, 0);
        T.due("21: nowhere whence there is a way, no step", x.hide(0, 0), -1);
        T.due("21: nowhere whence there is a way", x.hide(0, 30), -1);
        x.fence(17, false);
        T.due("21: one way, no step", x.hide(0, 0), 0);
    }

    /** TO a SQUARE: the fewest STEPS; NONE. */
    private static void to() {
        SeatsToTheReluctant x = one(0, 0, 0, 1, 0);
        T.due("22: where he is", x.to(0, 0), 0);
        T.due("22: beside him", x.to(0, 7), 1);
        T.due("22: the furthest corner", x.to(0, 48), 12);
        x.fence(41, true);
        x.fence(47, true);
        T.due("22: no way", x.to(0, 48), -1);
        T.due("22: a fence", x.to(0, 47), -16);
        T.due("22: where somebody is", x.to(0, 24), 6);
        x.fence(47, false);
        T.due("22: a way again", x.to(0, 48), 12);
    }

    /** SPARED: no FENCE, nobody at it, not THE LAMP; the first; NONE. */
    private static void spared() {
        SeatsToTheReluctant x = one(0, 0, 0, 1, 48);
        x.fence(47, true);
        T.due("23: the one way he has, at once", x.spared(0, 0), 41);
        T.due("23: the one way he has, behind 30", x.spared(0, 30), 41);
        x.fence(41, true);
        T.due("23: no way, so the first square", x.spared(0, 0), 0);
        x.fence(0, true);
        T.due("23: the first without fence", x.spared(0, 0), 1);
        x.person(0, 0, 0, 1, 1);
        T.due("23: the first at which nobody is", x.spared(0, 0), 2);
        T.due("23: another has other ways", x.spared(1, 0), -1);
        x = one(0, 0, 0, 1, 47);
        x.person(0, 0, 0, 1, 40);
        x.fence(46, true);
        x.fence(41, true);
        x.fence(33, true);
        T.due("23: his one way leads by where another is", x.spared(0, 0), 39);
        x.tell(1, 2, 39);
        T.due("23: and farther by where another is now", x.spared(0, 0), 40);
        // The last square may be the answer.
        x = one(0, 0, 20, 1, 41);
        x.person(0, 0, 0, 1, 23);
        x.ask(0, 1);
        // He, at FAR 5, is chosen; behind a yard he is at 34 and FAR 4, the other at 16 and FAR 2.
        T.due("23: none behind a yard", x.spared(0, 1), sparedByHand(x, 0, 1));
        for (int square = 0; square < 48; square++) {
            x.fence(square, square != 41 && square != 24 && square != 23);
        }
        T.due("23: a fence everywhere but at 48: no way", x.spared(0, 0), 48);
        x.fence(48, true);
        T.due("23: not chosen, yet no square is left", x.spared(0, 0), -1);
    }

    private static int sparedByHand(SeatsToTheReluctant x, int person, int n) {
        for (int square = 0; square < 49; square++) {
            boolean may = square != 24 && x.squareOf(square, 0) == 0 && x.squareOf(square, 1) == 0;
            if (may) {
                x.fence(square, true);
                int chosen = x.chosen(n);
                x.fence(square, false);
                if ((chosen >> person & 1) == 0) {
                    return square;
                }
            }
        }
        return -1;
    }

    /** Also if he isn't CHOSEN anyway: the first SQUARE by which he isn't, which may be by its fence that he is. */
    private static void sparedAnyway() {
        // The other, at 0, is further, and has the seat as long as a fence leaves him a way.
        SeatsToTheReluctant x = one(0, 0, 20, 1, 23);
        x.person(0, 0, 20, 1, 0);
        x.ask(0, 1);
        T.due("23: not chosen", x.chosen(0), 2);
        T.due("23: the first square", x.spared(0, 0), 1);
        x.fence(7, true);
        // A fence at 1 would close the other off, so that he himself were chosen.
        T.due("23: not by 1", x.spared(0, 0), 2);
        T.due("23: but the other by 1", x.spared(1, 0), 1);
    }

    /** LEAST WANT (0 to 20) by which one is CHOSEN; greatest; NONE. */
    private static void wanting() {
        SeatsToTheReluctant x = one(0, 0, 7, 1, 0);
        x.ask(1, 40);
        T.due("24: from 0", x.wanting(0, 0, 0), 0);
        T.due("24: to 20", x.wanting(0, 0, 1), 20);
        T.due("24: from 0, behind 30", x.wanting(0, 30, 0), 0);
        T.due("24: to 20, behind 30", x.wanting(0, 30, 1), 20);
        T.due("24: his want is as it was", x.personOf(0, 2), 7);
        x.ask(1, 0);
        T.due("24: 0 alone, least", x.wanting(0, 0, 0), 0);
        T.due("24: 0 alone, greatest", x.wanting(0, 0, 1), 0);
        x = one(6, 9, 7, 1, 0);
        x.ask(1, 12);
        T.due("24: a smell of 12 at least, least", x.wanting(0, 0, 0), 0);
        T.due("24: a smell of 12 at least, greatest", x.wanting(0, 0, 1), 0);
        x.ask(1, 11);
        T.due("24: none, least", x.wanting(0, 0, 0), -1);
        T.due("24: none, greatest", x.wanting(0, 0, 1), -1);
        x.ask(1, 31);
        T.due("24: 20 smells too much", x.wanting(0, 0, 1), 19);
        x.ask(1, 32);
        T.due("24: 20", x.wanting(0, 0, 1), 20);
        // The other goes a step to the lamp; he stays if he flees, and goes as far if he doesn't, with a later number.
        x = one(0, 0, 20, 1, 1);
        x.person(0, 0, 0, 1, 5);
        x.ask(0, 1);
        x.fence(0, true);
        x.fence(6, true);
        x.fence(8, true);
        x.fence(12, true);
        T.due("24: behind a yard the other is ahead if he goes", x.wanting(1, 1, 0), 0);
        T.due("24: to the want by which he stays where he is", x.wanting(1, 1, 1), 9);
        for (int what : new int[] {-1, 2, MIN, MAX}) {
            T.due("24: wanting(0, 0, " + what + ")", x.wanting(0, 0, what), -15);
        }
    }

    /** WITHOUT one: as if he weren't there. */
    private static void without() {
        SeatsToTheReluctant x = one(0, 0, 0, 1, 0);
        T.due("25: nobody is left", x.without(0, 0), 0);
        T.due("25: nobody is left, behind 30", x.without(0, 30), 0);
        x = one(0, 0, 20, 1, 24);
        x.person(0, 0, 0, 1, 0);
        x.person(0, 0, 20, 1, 23);
        x.ask(0, 1);
        T.due("25: of FAR 0 and 1 now, with nothing asked ahead of it", x.without(1, 0), 4);
        T.due("25: of FAR 0 and 0 behind a yard", x.without(1, 1), 1);
        T.due("25: of FAR 0 and 1 now again", x.without(1, 0), 4);
        x = one(0, 0, 0, 1, 0);
        for (int p = 1; p < 7; p++) {
            x.person(0, 0, 0, 1, 0);
        }
        int[] due = {6, 5, 3, 3, 3, 3, 3};
        for (int p = 0; p < 7; p++) {
            T.due("25: of seven alike without " + p, x.without(p, 30), due[p]);
        }
        x.ask(0, 4);
        int[] four = {30, 29, 27, 23, 15, 15, 15};
        for (int p = 0; p < 7; p++) {
            T.due("25: four of seven without " + p, x.without(p, 0), four[p]);
        }
    }

    /** WANTS (bits 0 to 20), KINDS that FIT behind 1, 2, .. YARDS, the first n elements (0 to 30). */
    private static void fits() {
        SeatsToTheReluctant x = one(0, 0, 0, 1, 24);
        x.row(0, 0, 0);
        T.due("26: of no elements, wants", x.fits(0, 0, 0, 0), (1 << 21) - 1);
        T.due("26: of no elements, kinds", x.fits(0, 0, 0, 1), 127);
        T.due("26: an element that isn't there", x.fits(0, 0, 1, 0), -5);
        x.row(0, 1, 30);
        int[] way = {17, 10, 3, 2, 1};
        for (int i = 0; i < way.length; i++) {
            x.set(0, i, way[i]);
        }
        T.due("26: all 30, wants", x.fits(0, 0, 30, 0), 1023);
        T.due("26: all 30, kinds", x.fits(0, 0, 30, 1), 15);
        T.due("26: 31 of 30", x.fits(0, 0, 31, 0), -5);
        x.set(0, 29, 7);
        T.due("26: the last is wrong", x.fits(0, 0, 30, 0), 0);
        T.due("26: the last isn't asked", x.fits(0, 0, 29, 0), 1023);
        x.row(1, 0, 160);
        T.due("26: 31 of 160", x.fits(1, 0, 31, 0), -6);
        T.due("26: 160 of 160", x.fits(1, 0, 160, 0), -6);
        T.due("26: 161 of 160", x.fits(1, 0, 161, 0), -5);
        T.due("26: 30 of 160", x.fits(1, 0, 30, 0), 0);
        T.due("26: n -1", x.fits(1, 0, -1, 0), -4);
        T.due("26: n MIN", x.fits(1, 0, MIN, 0), -4);
        T.due("26: n MAX", x.fits(1, 0, MAX, 0), -5);
        T.due("26: what 2", x.fits(1, 0, 0, 2), -5);
        T.due("26: what -1", x.fits(1, 0, 0, -1), -5);
    }

    /** A coward of 9 flees to 18: bits 19 and 20 alone stay. */
    private static void fitsBetweenTheEnds() {
        SeatsToTheReluctant x = one(1, 9, 0, 1, 24);
        Due.put(x, 0, 24);
        T.due("26: the last bits", x.fits(0, 0, 1, 0), 1 << 19 | 1 << 20);
        Due.put(x, 0, 17);
        T.due("26: the first bits", x.fits(0, 0, 1, 0), (1 << 19) - 1);
        Due.put(x, 0, -1);
        T.due("26: no square", x.fits(0, 0, 1, 0), 0);
        Due.put(x, 0, 49);
        T.due("26: no square", x.fits(0, 0, 1, 0), 0);
        // A longer flees by no want, so one row takes all 21.
        x = one(4, 9, 0, 1, 24);
        Due.put(x, 0, 24);
        T.due("26: all bits", x.fits(0, 0, 1, 0), 2097151);
        // By kinds: who is at the lamp and wants much stays, but the kinds that run by a as well.
        x = one(0, 9, 18, 1, 24);
        Due.put(x, 0, 24);
        T.due("26: kinds that stay", x.fits(0, 0, 1, 1), 1 | 4 | 16 | 32);
        Due.put(x, 0, 17);
        T.due("26: kinds that go a step", x.fits(0, 0, 1, 1), 2 | 8);
        Due.put(x, 0, 10);
        T.due("26: the kind that goes two", x.fits(0, 0, 1, 1), 64);
    }

    /** TELLS: the least n (1 to 30) behind which there are most different SQUARES; how many. */
    private static void tells() {
        SeatsToTheReluctant x = one(0, 0, 0, 1, 24);
        T.due("27: n is 1 at least", x.tells(0, 0), 1);
        T.due("27: two", x.tells(0, 1), 2);
        x = one(4, 0, 0, 1, 24);
        T.due("27: n is 1 though all are alike", x.tells(0, 0), 1);
        T.due("27: one", x.tells(0, 1), 1);
        x = one(5, 9, 0, 1, 24);
        T.due("27: he faints in the first", x.tells(0, 0), 2);
        x.run(21);
        T.due("27: not in yard 21", x.tells(0, 0), 1);
        x.run(1);
        x.tell(0, 2, 24);
        T.due("27: in yard 22", x.tells(0, 0), 2);
        T.due("27: two behind 2", x.tells(0, 1), 2);
        for (int what : new int[] {-1, 2, MIN, MAX}) {
            T.due("27: tells(0, " + what + ")", x.tells(0, what), -5);
        }
        T.due("27: his want is as it was", x.personOf(0, 2), 0);
    }

    /** WEIGHT: a and 1. A set CARRIES above half of all. POWER: in how many orders he is the one. */
    private static void power() {
        T.due("28: one alone, a 0", council(0).power(0, 1), 1);
        T.due("28: one alone, a 9", council(9).power(0, 1), 1);
        T.due("28: two alike: half doesn't carry", council(4, 4).power(0, 3), 1);
        T.due("28: two alike, the second", council(4, 4).power(1, 3), 1);
        T.due("28: just above half", council(5, 4).power(0, 3), 2);
        T.due("28: just below half", council(5, 4).power(1, 3), 0);
        // Weights 3, 1, 1, 1: the first has half by himself, and carries with any other.
        T.due("28: half by himself", council(2, 0, 0, 0).power(0, 15), 18);
        T.due("28: one of the others", council(2, 0, 0, 0).power(1, 15), 2);
        // Weights 4, 1, 1, 1: more than half by himself.
        T.due("28: more than half", council(3, 0, 0, 0).power(0, 15), 24);
        T.due("28: none of the others", council(3, 0, 0, 0).power(3, 15), 0);
        // Weights 7, 1 six times: more than half by himself, in whatever place of all orders.
        T.due("28: more than half of seven", council(6, 0, 0, 0, 0, 0, 0).power(0, 127), 5040);
        // Weights 6, 1 six times: half by himself, so in all places but the first.
        T.due("28: half of seven", council(5, 0, 0, 0, 0, 0, 0).power(0, 127), 4320);
        T.due("28: one of the six, who must be the second, behind him", council(5, 0, 0, 0, 0, 0, 0).power(6, 127), 120);
        SeatsToTheReluctant x = council(9, 9, 9, 9, 9, 9, 9);
        int sum = 0;
        for (int p = 0; p < 7; p++) {
            T.due("28: seven of the most", x.power(p, 127), 720);
            sum += x.power(p, 127);
        }
        T.due("28: in all orders somebody is the one", sum, 5040);
        x = council(0, 0);
        T.due("28: not among them", x.power(1, 1), -5);
        T.due("28: of nobody", x.power(0, 0), -5);
        T.due("28: one who isn't there", x.power(0, 5), -6);
        T.due("28: the sign's bit", x.power(0, MIN | 1), -6);
        T.due("28: all bits", x.power(0, -1), -6);
        T.due("28: no such one", x.power(2, 4), -1);
        T.due("28: the last who is there", x.power(1, 3), 1);
        x = council(0, 0, 0, 0, 0, 0, 0);
        T.due("28: bit 7", x.power(0, 129), -6);
    }

    /** LEAST CARRYING: the smallest, of several the least as bits; 0: nobody is told. */
    private static void carries() {
        T.due("29: nobody", new SeatsToTheReluctant().carries(0), 0);
        T.due("29: nobody is there", new SeatsToTheReluctant().carries(1), -6);
        T.due("29: one", council(0).carries(1), 1);
        T.due("29: half doesn't carry", council(4, 4).carries(3), 3);
        T.due("29: just above half", council(5, 4).carries(3), 1);
        T.due("29: just above half, the second", council(4, 5).carries(3), 2);
        T.due("29: half by himself", council(2, 0, 0, 0).carries(15), 3);
        T.due("29: more than half", council(3, 0, 0, 0).carries(15), 1);
        T.due("29: seven alike", council(9, 9, 9, 9, 9, 9, 9).carries(127), 15);
        T.due("29: the last of seven", council(0, 0, 0, 0, 0, 0, 9).carries(127), 64);
        T.due("29: of a part", council(0, 0, 0, 0, 0, 0, 9).carries(63), 15);
        SeatsToTheReluctant x = council(0, 0, 0, 0, 0, 0, 0);
        T.due("29: bit 7", x.carries(128), -6);
        T.due("29: all bits", x.carries(-1), -6);
        T.due("29: the sign's bit", x.carries(MIN), -6);
        T.due("29: MAX", x.carries(MAX), -6);
        x = council(0, 0, 0);
        T.due("29: bit 3", x.carries(8), -6);
        T.due("29: bits 0 to 2", x.carries(7), 3);
    }

    /** BELL: the SCENT (0 to 40) by which fewest are PUT OUT but a told one is; NONE; the least of several. */
    private static void bell() {
        T.due("30: a smell of 0", one(0, 9, 0, 1, 0).bell(0), -1);
        T.due("30: half of 1 is 0", one(2, 9, 1, 1, 0).bell(0), -1);
        T.due("30: a smell of 1", one(0, 9, 1, 1, 0).bell(0), 0);
        T.due("30: half of 2 is 1", one(2, 9, 2, 1, 0).bell(0), 0);
        SeatsToTheReluctant x = one(6, 9, 20, 1, 0);
        T.due("30: alone, the least of several", x.bell(0), 0);
        x.person(6, 9, 19, 1, 0);
        T.due("30: smells of 32 and 31", x.bell(0), 31);
        T.due("30: smells of 31 and 32", x.bell(1), 0);
        x.person(0, 0, 0, 1, 0);
        T.due("30: who smells of nothing changes nothing", x.bell(0), 31);
        x.person(0, 0, 20, 1, 0);
        T.due("30: of 20 too", x.bell(3), 0);
        T.due("30: of 31 with 20 below", x.bell(1), 20);
        T.due("30: nobody such", x.bell(4), -11);
        T.due("30: nobody such", x.bell(-1), -11);
    }

    /** CROWD: the SQUARE with most PEOPLE, of several the first; NONE nobody. */
    private static void crowd() {
        SeatsToTheReluctant x = new SeatsToTheReluctant();
        T.due("31: nobody", x.crowd(0, 0), -1);
        T.due("31: nobody, behind 30", x.crowd(30, 0), -1);
        x.person(0, 0, 0, 1, 48);
        T.due("31: one, at the last square", x.crowd(0, 0), 48);
        x.person(0, 0, 0, 1, 0);
        T.due("31: two apart, the first square", x.crowd(0, 0), 0);
        x.person(0, 0, 0, 1, 48);
        T.due("31: two at the last", x.crowd(0, 0), 48);
        x.person(0, 0, 0, 1, 0);
        T.due("31: two at each, the first square", x.crowd(0, 0), 0);
        for (int what : new int[] {-1, 2, MIN, MAX}) {
            T.due("31: crowd(0, " + what + ")", x.crowd(0, what), -15);
        }
    }

    /** LAST: furthest (FAR below 99), of several the first; NONE. */
    private static void last() {
        SeatsToTheReluctant x = new SeatsToTheReluctant();
        T.due("31: nobody", x.crowd(0, 1), -1);
        T.due("31: nobody, behind 30", x.crowd(30, 1), -1);
        x.person(0, 0, 0, 1, 24);
        T.due("31: one at the lamp", x.crowd(0, 1), 0);
        x.person(0, 0, 0, 1, 24);
        T.due("31: two alike", x.crowd(0, 1), 0);
        x.tell(1, 2, 23);
        T.due("31: the second is further", x.crowd(0, 1), 1);
        x.fence(16, true);
        x.fence(22, true);
        x.fence(30, true);
        T.due("31: a way still", x.crowd(0, 1), 1);
        x.tell(1, 2, 21);
        x.fence(14, true);
        x.fence(28, true);
        T.due("31: no way", x.crowd(0, 1), 0);
        x.tell(0, 2, 21);
        T.due("31: no way for anybody", x.crowd(0, 1), -1);
        T.due("31: a crowd there is", x.crowd(0, 0), 21);
    }

    /** A told VOTE: the first k elements (0 to how many PEOPLE) behind n YARDS; WRONG: the first that isn't so; NONE. */
    private static void judge() {
        SeatsToTheReluctant x = new SeatsToTheReluctant();
        x.row(0, 0, 0);
        T.due("32: nobody, no elements", x.judge(0, 0, 0), -1);
        T.due("32: nobody, no elements, behind 30", x.judge(0, 0, 30), -1);
        T.due("32: an element that isn't there", x.judge(0, 1, 0), -15);
        x.row(0, 0, 160);
        T.due("32: nobody, one element", x.judge(0, 1, 0), -16);
        for (int p = 0; p < 7; p++) {
            x.person(4, 0, 0, 1, 40 + p);
            x.set(0, p, 40 + p);
        }
        T.due("32: all seven", x.judge(0, 7, 0), -1);
        T.due("32: eight", x.judge(0, 8, 0), -16);
        T.due("32: 160", x.judge(0, 160, 0), -16);
        T.due("32: 161", x.judge(0, 161, 0), -15);
        T.due("32: k MAX", x.judge(0, MAX, 0), -15);
        T.due("32: k -1", x.judge(0, -1, 0), -14);
        T.due("32: k MIN", x.judge(0, MIN, 0), -14);
        T.due("32: behind a yard the first is wrong", x.judge(0, 7, 1), 0);
        T.due("32: none told, none wrong", x.judge(0, 0, 1), -1);
        x.set(0, 6, 0);
        T.due("32: the last is wrong", x.judge(0, 7, 0), 6);
        T.due("32: the last isn't told", x.judge(0, 6, 0), -1);
        x.set(0, 0, 0);
        T.due("32: the first is wrong", x.judge(0, 7, 0), 0);
        for (int p = 0; p < 7; p++) {
            x.set(0, p, 24);
        }
        T.due("32: behind 30 all are at the lamp", x.judge(0, 7, 30), -1);
        for (int n : NO_YARDS) {
            T.due("32: n " + n, x.judge(0, 7, n), -16);
        }
    }

    /** YARDS in truth, n (1 to 30). */
    private static void run() {
        SeatsToTheReluctant x = one(0, 0, 0, 1, 24);
        for (int n : new int[] {0, 31, -1, MIN, MAX}) {
            T.due("33: run(" + n + ")", x.run(n), -6);
            T.due("33: he stays", x.personOf(0, 4), 24);
            T.due("33: no yards", x.status(4), 0);
        }
        T.due("33: run(1)", x.run(1), 1);
        T.due("33: a step", x.personOf(0, 4), 17);
        T.due("33: run(30)", x.run(30), 31);
        T.due("33: at the corner", x.personOf(0, 4), 0);
    }

    /** YEARS by draws, n (1 to 40). */
    private static void years() {
        SeatsToTheReluctant x = new SeatsToTheReluctant();
        for (int n : new int[] {0, 1, 40, 41, -1, MIN, MAX}) {
            T.due("35: of nobody, years(" + n + ")", x.years(n), -5);
        }
        T.due("35: no draw", x.status(7), 1);
        x.person(0, 0, 0, 1, 0);
        for (int n : new int[] {0, 41, -1, MIN, MAX}) {
            T.due("35: years(" + n + ")", x.years(n), -6);
        }
        T.due("35: no vote", x.status(5), 0);
        T.due("35: no draw", x.status(7), 1);
        T.due("35: years(1)", x.years(1), 1);
        T.due("35: years(40)", x.years(40), 41);
        int yards = x.status(4);
        T.due("35: 1 to 5 yards each", yards >= 41 && yards <= 205 ? 1 : 0, 1);
        int want = x.personOf(0, 2);
        T.due("35: a want of 0 to 20", want >= 0 && want <= 20 ? 1 : 0, 1);
        // Every want, and every number of yards, comes by some seed.
        boolean[] wants = new boolean[21];
        boolean[] lengths = new boolean[6];
        for (int seed = 0; seed < 400; seed++) {
            SeatsToTheReluctant y = one(0, 0, 0, 1, 0);
            y.seed(seed * 7919);
            y.years(1);
            wants[y.personOf(0, 2)] = true;
            lengths[y.status(4)] = true;
        }
        for (int v = 0; v <= 20; v++) {
            T.due("35: a want of " + v, wants[v] ? 1 : 0, 1);
        }
        for (int v = 0; v <= 5; v++) {
            T.due("35: " + v + " yards", lengths[v] ? 1 : 0, v == 0 ? 0 : 1);
        }
    }

    /** THE IMAGE: none at first; of nobody; of all; PEOPLE who aren't there then leave NOTHING. */
    private static void image() {
        SeatsToTheReluctant x = new SeatsToTheReluctant();
        T.due("40: there is none", x.restore(), -6);
        x.person(0, 0, 0, 1, 0);
        T.due("40: there is none still", x.restore(), -6);
        T.due("40: he is there", x.status(0), 1);
        x = new SeatsToTheReluctant();
        T.due("39: of nobody", x.image(), 0);
        for (int p = 0; p < 7; p++) {
            x.person(0, 0, 0, 1, 0);
            x.show(p, p);
        }
        x.row(7, 3, 1);
        T.due("40: nobody then", x.restore(), 0);
        for (int s = 0; s < 7; s++) {
            T.due("40: nothing then", x.holds(s), -1);
        }
        T.due("40: a row stays", x.holds(7), 103);
        for (int p = 0; p < 3; p++) {
            x.person(0, 0, p, 1, 0);
        }
        T.due("39: of three", x.image(), 3);
        for (int p = 3; p < 7; p++) {
            x.person(0, 0, p, 1, 0);
        }
        for (int p = 0; p < 7; p++) {
            x.show(p, p);
        }
        T.due("40: three then", x.restore(), 3);
        for (int s = 0; s < 7; s++) {
            T.due("40: the last who is there, the first who isn't", x.holds(s), s < 3 ? s : -1);
        }
        for (int p = 3; p < 7; p++) {
            x.person(0, 0, p, 1, 0);
        }
        T.due("39: of seven", x.image(), 7);
        T.due("40: seven then", x.restore(), 7);
    }

    /** MOVES 0 to 2 of PEOPLE who are there; 0, and no TRACE then. */
    private static void moves() {
        SeatsToTheReluctant x = new SeatsToTheReluctant();
        T.due("37: nobody", x.act(0, 0, 1), 0);
        for (int p = 0; p < 7; p++) {
            x.person(0, 0, 0, 1, 0);
        }
        T.due("37: the first", x.act(0, 0, 1), 1);
        T.due("37: the last", x.act(6, 0, 1), 7);
        T.due("37: the last move", x.act(6, 2, 1), 14 ^ 7);
        T.due("41: its bodies", x.status(8), 4);
        int[][] none = {{7, 0}, {-1, 0}, {0, 3}, {0, -1}, {MIN, 0}, {MAX, 0}, {0, MIN}, {0, MAX}};
        for (int[] n : none) {
            x.act(0, 2, 1);
            T.due("37: act(" + n[0] + ", " + n[1] + ", 1)", x.act(n[0], n[1], 1), 0);
            T.due("38: no trace then", x.trace(0), -1);
            T.due("41: no bodies then", x.status(8), 0);
        }
        for (int what = 11; what <= 17; what++) {
            T.due("37: nothing is refused", x.status(what), 0);
        }
    }

    /** THE TRACE: from its first body to its last; the most that run are a clerk's who sits. */
    private static void trace() {
        SeatsToTheReluctant x = one(6, 1, 0, 1, 0);
        T.due("38: no act yet", x.trace(0), -1);
        T.due("41: no act yet", x.status(8), 0);
        x.act(0, 2, 1);
        int[] due = {12, 71, 11, 70, 40, 20, 10, 70, 40, 20, 10};
        for (int i = 0; i < due.length; i++) {
            T.due("38: trace(" + i + ")", x.trace(i), due[i]);
        }
        for (int i : new int[] {-1, 11, 12, 19, 20, 21, MIN, MAX}) {
            T.due("38: trace(" + i + ")", x.trace(i), -1);
        }
        T.due("41: all bodies", x.status(8), 11);
        x.act(0, 0, 1);
        T.due("38: the last of the latest", x.trace(3), 10);
        T.due("38: behind it, though more ran earlier", x.trace(4), -1);
        T.due("41: of the latest alone", x.status(8), 4);
    }

    /** Of status 0 to 8, 11 to 17; NONE for another what. */
    private static void status() {
        SeatsToTheReluctant x = new SeatsToTheReluctant();
        for (int what : new int[] {-1, 9, 10, 18, MIN, MAX}) {
            T.due("41: status(" + what + ")", x.status(what), -1);
        }
        for (int what : new int[] {0, 8, 11, 17}) {
            T.due("41: status(" + what + ")", x.status(what), 0);
        }
    }
}
