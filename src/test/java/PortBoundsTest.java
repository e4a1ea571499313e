/** The bounds that "Terms" 1 names, sentence by sentence: the last that may be and the first that may not. */
public final class PortBoundsTest {
    private static final int MIN = Integer.MIN_VALUE;
    private static final int MAX = Integer.MAX_VALUE;
    private static final int[] NO_SQUARES = {-1, 49, MIN, MAX};
    private static final Due T = new Due("PortBoundsTest");

    public static void main(String[] args) {
        squares();
        rowsAndColumns();
        theLamp();
        noFenceAtFirst();
        numbersOfPeople();
        kinds();
        kindsUnder();
        numbersOfOne();
        atASquareWithoutFence();
        severalAtOne();
        satAtFirst();
        seatsAndScent();
        yardsAndVotesAtFirst();
        itemsOfAText();
        fencesOfAText();
        opensOfAText();
        peopleOfAText();
        seatsAndScentOfAText();
        oneBlank();
        digits();
        allOrNothing();
        noRoomInAText();
        tooEarly();
        firstPlace();
        T.end();
    }

    private static SeatsToTheReluctant made() {
        return new SeatsToTheReluctant();
    }

    private static SeatsToTheReluctant one(int at) {
        SeatsToTheReluctant x = made();
        x.person(0, 0, 0, 1, at);
        return x;
    }

    private static SeatsToTheReluctant people(int n) {
        SeatsToTheReluctant x = made();
        for (int p = 0; p < n; p++) {
            x.person(0, 0, 0, 1, 24);
        }
        return x;
    }

    private static void good(SeatsToTheReluctant x, String text, int items) {
        Due.write(x, 7, text);
        T.due("port of '" + text + "'", x.port(7), items);
        T.due("fault of '" + text + "'", x.fault(), -1);
    }

    private static void bad(SeatsToTheReluctant x, String text, int place) {
        Due.write(x, 7, text);
        T.due("port of '" + text + "'", x.port(7), -6);
        T.due("fault of '" + text + "'", x.fault(), place);
    }

    /** SQUARES 0 to 48. */
    private static void squares() {
        for (int square : new int[] {0, 48}) {
            SeatsToTheReluctant x = one(1);
            T.due("10: fence(" + square + ", true)", x.fence(square, true), 0);
            T.due("10: fence(" + square + ", false)", x.fence(square, false), 1);
            T.due("14: squareOf(" + square + ", 0)", x.squareOf(square, 0), 0);
            T.due("14: squareOf(" + square + ", 1)", x.squareOf(square, 1), 0);
            T.due("17: far(" + square + ")", x.far(square), 6);
            T.due("22: to(0, " + square + ")", x.to(0, square), square == 0 ? 1 : 11);
            T.due("11: tell(0, 2, " + square + ")", x.tell(0, 2, square), 1);
            T.due("9: person at " + square, x.person(0, 0, 0, 1, square), 1);
            good(x, "open " + square + ";person 0 0 0 1 " + square, 2);
            T.due("14: squareOf(" + square + ", 1)", x.squareOf(square, 1), 7);
        }
        for (int square : NO_SQUARES) {
            SeatsToTheReluctant x = one(1);
            T.due("10: fence(" + square + ", true)", x.fence(square, true), -6);
            T.due("10: fence(" + square + ", false)", x.fence(square, false), -6);
            T.due("14: squareOf(" + square + ", 0)", x.squareOf(square, 0), -5);
            T.due("14: squareOf(" + square + ", 1)", x.squareOf(square, 1), -5);
            T.due("17: far(" + square + ")", x.far(square), -6);
            T.due("22: to(0, " + square + ")", x.to(0, square), -16);
            T.due("11: tell(0, 2, " + square + ")", x.tell(0, 2, square), -6);
            T.due("9: person at " + square, x.person(0, 0, 0, 1, square), -6);
            T.due("9: still one", x.status(0), 1);
            T.due("10: still none", x.status(1), 0);
            T.due("11: still there", x.personOf(0, 4), 1);
        }
        bad(made(), "fence 49", 6);
        bad(made(), "fence -1", 6);
        bad(made(), "open 49", 5);
        bad(made(), "open -1", 5);
        bad(made(), "person 0 0 0 1 49", 15);
        bad(made(), "person 0 0 0 1 -1", 15);
    }

    /** 7 times the row (0 to 6) and the column (0 to 6): no step from a row's end to the next row. */
    private static void rowsAndColumns() {
        for (int from = 0; from < 49; from++) {
            SeatsToTheReluctant x = one(from);
            for (int square = 0; square < 49; square++) {
                int rows = Math.abs(from / 7 - square / 7);
                int columns = Math.abs(from % 7 - square % 7);
                T.due("22: from " + from + " to " + square, x.to(0, square), rows + columns);
            }
        }
        // With the rows' ends the only way, 6 and 7 aren't beside one another.
        SeatsToTheReluctant x = one(6);
        x.fence(5, true);
        x.fence(13, true);
        for (int square = 0; square < 49; square++) {
            if (square != 5 && square != 13) {
                T.due("22: closed in at 6, to " + square, x.to(0, square), square == 6 ? 0 : -1);
            }
        }
        x = one(42);
        x.fence(35, true);
        x.fence(43, true);
        T.due("22: closed in at 42, to 41", x.to(0, 41), -1);
        T.due("22: closed in at 42, to 48", x.to(0, 48), -1);
        T.due("22: closed in at 42, to 0", x.to(0, 0), -1);
    }

    /** THE LAMP is at 24. */
    private static void theLamp() {
        SeatsToTheReluctant x = made();
        for (int square = 0; square < 49; square++) {
            T.due("17: is it far to the lamp from " + square, x.far(square) == 0 ? 1 : 0, square == 24 ? 1 : 0);
        }
        x.person(0, 0, 0, 1, 0);
        x.vote();
        T.due("34: to the lamp", x.personOf(0, 4), 24);
    }

    /** A FENCE: not at first; never at THE LAMP. */
    private static void noFenceAtFirst() {
        SeatsToTheReluctant x = made();
        for (int square = 0; square < 49; square++) {
            T.due("14: no fence at first at " + square, x.squareOf(square, 0), 0);
        }
        for (int square = 0; square < 49; square++) {
            T.due("10: fence(" + square + ", true)", x.fence(square, true), square == 24 ? -6 : 0);
        }
        T.due("41: all but the lamp", x.status(1), 48);
        T.due("14: the lamp", x.squareOf(24, 0), 0);
        T.due("10: fence(24, false)", x.fence(24, false), -6);
        bad(x, "fence 24", 6);
        T.due("17: the lamp", x.far(24), 0);
        for (int square = 0; square < 49; square++) {
            T.due("14: squareOf(" + square + ", 0)", x.squareOf(square, 0), square == 24 ? 0 : 1);
            T.due("17: far(" + square + ")", x.far(square), square == 24 ? 0 : 99);
        }
        // Spared: each fence but the lamp's has been tried.
        SeatsToTheReluctant y = made();
        for (int square = 0; square < 49; square++) {
            y.fence(square, square != 23);
        }
        y.person(0, 0, 0, 1, 23);
        T.due("23: only the lamp is left, which is never fenced", y.spared(0, 0), -1);
    }

    /** PEOPLE have numbers, from 0 on, 7 at most. */
    private static void numbersOfPeople() {
        SeatsToTheReluctant x = made();
        for (int p = 0; p < 7; p++) {
            T.due("13: not there yet", x.personOf(p, 0), -5);
            T.due("9: the number", x.person(0, 0, p, 1, 24), p);
            T.due("13: there now", x.personOf(p, 2), p);
        }
        T.due("9: an eighth", x.person(0, 0, 7, 1, 24), -7);
        T.due("13: personOf(7, 0)", x.personOf(7, 0), -5);
        T.due("13: personOf(-1, 0)", x.personOf(-1, 0), -5);
        T.due("41: seven", x.status(0), 7);
    }

    /** A KIND 0 to 6. */
    private static void kinds() {
        SeatsToTheReluctant x = made();
        for (int kind = 0; kind < 7; kind++) {
            T.due("9: kind " + kind, x.person(kind, 0, 0, 1, 24), kind);
            T.due("13: kind " + kind, x.personOf(kind, 0), kind);
        }
        x = one(0);
        x.show(0, 0);
        for (int kind : new int[] {-1, 7, MIN, MAX}) {
            T.due("9: kind " + kind, x.person(kind, 0, 0, 1, 24), -1);
            T.due("8: says(0, " + kind + ")", x.says(0, kind), -1);
        }
        for (int kind = 0; kind < 7; kind++) {
            good(made(), "person " + kind + " 0 0 1 0", 1);
        }
        bad(made(), "person 7 0 0 1 0", 7);
        bad(made(), "person 10 0 0 1 0", 7);
        bad(made(), "person -1 0 0 1 0", 7);
    }

    /** 1 COWARD, 2 LADY, 4 LONGER under PERSON; 3 PRETENDER under COWARD; 5 FAINTER under LADY; 6 CLERK under it. */
    private static void kindsUnder() {
        String[] above = {"0", "10", "20", "310", "40", "520", "6310"};
        for (int kind = 0; kind < 7; kind++) {
            SeatsToTheReluctant x = made();
            x.person(kind, 0, 0, 1, 24);
            x.show(0, 0);
            for (int other = 0; other < 7; other++) {
                boolean is = above[kind].indexOf('0' + other) >= 0;
                T.due("8: a " + kind + " for a " + other, x.says(0, other) == -2 ? 0 : 1, is ? 1 : 0);
            }
        }
    }

    /** a (0 to 9), WANT (0 to 20), SPEED (1 to 4). */
    private static void numbersOfOne() {
        int[] least = {0, 0, 1};
        int[] most = {9, 20, 4};
        for (int which = 0; which < 3; which++) {
            for (int v : new int[] {least[which], most[which], least[which] - 1, most[which] + 1, MIN, MAX}) {
                boolean may = v >= least[which] && v <= most[which];
                int a = which == 0 ? v : 5;
                int want = which == 1 ? v : 5;
                int speed = which == 2 ? v : 2;
                SeatsToTheReluctant x = made();
                T.due("9: a " + a + ", want " + want + ", speed " + speed, x.person(0, a, want, speed, 0), may ? 0 : -6);
                T.due("9: how many", x.status(0), may ? 1 : 0);
                if (which > 0) {
                    x = one(0);
                    int was = which == 1 ? 0 : 1;
                    T.due("11: tell(0, " + (which - 1) + ", " + v + ")", x.tell(0, which - 1, v), may ? was : -6);
                    T.due("11: now", x.personOf(0, which + 1), may ? v : was);
                }
                if (v >= 0 && v < 100) {
                    String text = "person 0 " + a + " " + want + " " + speed + " 0";
                    int[] places = {9, 11, 13};
                    if (may) {
                        good(made(), text, 1);
                    } else {
                        bad(made(), text, places[which]);
                    }
                }
            }
        }
    }

    /** AT: a SQUARE without FENCE. */
    private static void atASquareWithoutFence() {
        SeatsToTheReluctant x = one(0);
        x.fence(7, true);
        x.fence(48, true);
        for (int square : new int[] {7, 48}) {
            T.due("9: at a fence", x.person(0, 0, 0, 1, square), -6);
            T.due("11: to a fence", x.tell(0, 2, square), -6);
            T.due("22: to a fence", x.to(0, square), -16);
            bad(x, "person 0 0 0 1 " + square, 15);
            x.fence(square, false);
            T.due("22: to where a fence was", x.to(0, square), square == 7 ? 1 : 12);
            T.due("11: to where a fence was", x.tell(0, 2, square), 0);
            T.due("9: at where a fence was", x.person(0, 0, 0, 1, square), square == 7 ? 1 : 2);
            x.tell(0, 2, 0);
        }
    }

    /** Several may be at one. */
    private static void severalAtOne() {
        SeatsToTheReluctant x = made();
        for (int p = 0; p < 6; p++) {
            T.due("9: at one", x.person(p, 0, 0, 1, 33), p);
            T.due("14: at one", x.squareOf(33, 1), (1 << p + 1) - 1);
        }
        x.person(6, 0, 0, 1, 0);
        T.due("11: he comes too", x.tell(6, 2, 33), 0);
        T.due("14: all seven", x.squareOf(33, 1), 127);
        T.due("14: none left", x.squareOf(0, 1), 0);
    }

    /** SAT: 0 at first; how often in truth. */
    private static void satAtFirst() {
        SeatsToTheReluctant x = one(0);
        T.due("13: sat at first", x.personOf(0, 5), 0);
        x.chosen(0);
        x.who(0);
        x.without(0, 0);
        T.due("13: sat, told only", x.personOf(0, 5), 0);
        x.vote();
        T.due("13: sat once", x.personOf(0, 5), 1);
        x.ask(1, 0);
        x.tell(0, 0, 1);
        x.vote();
        T.due("13: put out, sat once", x.personOf(0, 5), 1);
    }

    /** SEATS (1 to 4; 2 at first), SCENT (0 to 40; 20 at first). */
    private static void seatsAndScent() {
        SeatsToTheReluctant x = made();
        T.due("41: seats at first", x.status(2), 2);
        T.due("41: scent at first", x.status(3), 20);
        for (int v : new int[] {0, 5, -1, MIN, MAX}) {
            T.due("12: ask(0, " + v + ")", x.ask(0, v), -6);
        }
        for (int v : new int[] {-1, 41, MIN, MAX}) {
            T.due("12: ask(1, " + v + ")", x.ask(1, v), -6);
        }
        T.due("41: seats still", x.status(2), 2);
        T.due("41: scent still", x.status(3), 20);
        int was = 2;
        for (int v = 1; v <= 4; v++) {
            T.due("12: ask(0, " + v + ")", x.ask(0, v), was);
            was = v;
        }
        was = 20;
        for (int v = 0; v <= 40; v += 8) {
            T.due("12: ask(1, " + v + ")", x.ask(1, v), was);
            was = v;
        }
        for (int what : new int[] {-1, 2, MIN, MAX}) {
            T.due("12: ask(" + what + ", 1)", x.ask(what, 1), -6);
        }
    }

    /** YARDS, VOTES (0 at first). */
    private static void yardsAndVotesAtFirst() {
        SeatsToTheReluctant x = made();
        T.due("41: yards at first", x.status(4), 0);
        T.due("41: votes at first", x.status(5), 0);
        T.due("33: run(1)", x.run(1), 1);
        T.due("34: vote() of nobody", x.vote(), 0);
        T.due("41: yards", x.status(4), 1);
        T.due("41: votes", x.status(5), 1);
    }

    /** ITEM, then any number of times ; and ITEM: from none to as many as the longest row holds. */
    private static void itemsOfAText() {
        good(made(), "open 0", 1);
        good(made(), "open 0;open 0", 2);
        StringBuilder text = new StringBuilder("open 0");
        while (text.length() < 153) {
            text.append(";open 0");
        }
        T.due("22 items and 6 more elements", text.length(), 153);
        good(made(), text.toString(), 22);
        text.append(";open 0");
        T.due("as many elements as may be", text.length(), 160);
        good(made(), text.toString(), 23);
        text.setCharAt(159, '!');
        bad(made(), text.toString(), 159);
        bad(made(), "", 0);
        bad(made(), ";", 0);
        bad(made(), ";open 0", 0);
        bad(made(), "open 0;", 7);
        bad(made(), "open 0;;open 0", 7);
        bad(made(), "open 0 ;open 0", 6);
        bad(made(), "open 0; open 0", 7);
        bad(made(), "open 0:open 0", 6);
    }

    /** fence C: of a SQUARE, not THE LAMP, at which nobody is. */
    private static void fencesOfAText() {
        good(made(), "fence 0", 1);
        good(made(), "fence 48", 1);
        bad(made(), "fence 49", 6);
        good(made(), "fence 23;fence 25", 2);
        bad(made(), "fence 24", 6);
        SeatsToTheReluctant x = one(10);
        bad(x, "fence 10", 6);
        good(x, "fence 1;fence 9;fence 11", 3);
        T.due("10: a fence that is there may be told again", x.status(1), 3);
        good(x, "fence 9", 1);
        T.due("41: fences", x.status(1), 3);
        bad(x, "person 0 0 0 1 12;fence 12", 24);
        x.tell(0, 2, 13);
        good(x, "fence 10", 1);
    }

    /** open C. */
    private static void opensOfAText() {
        SeatsToTheReluctant x = one(10);
        x.fence(0, true);
        x.fence(48, true);
        good(x, "open 0", 1);
        good(x, "open 48", 1);
        T.due("41: fences", x.status(1), 0);
        good(x, "open 0;open 48", 2);
        bad(x, "open 49", 5);
        bad(x, "open 99", 5);
    }

    /** person K A W S C: each number's last that may be and first that may not. */
    private static void peopleOfAText() {
        SeatsToTheReluctant x = made();
        good(x, "person 0 0 0 1 0;person 6 9 20 4 48", 2);
        int[][] due = {{0, 0, 0, 1, 0, 0}, {6, 9, 20, 4, 48, 0}};
        for (int p = 0; p < 2; p++) {
            for (int what = 0; what < 6; what++) {
                T.due("13: personOf(" + p + ", " + what + ")", x.personOf(p, what), due[p][what]);
            }
        }
        bad(x, "person 7 9 20 4 48", 7);
        bad(x, "person 6 10 20 4 48", 9);
        bad(x, "person 6 9 21 4 48", 11);
        bad(x, "person 6 9 20 0 48", 14);
        bad(x, "person 6 9 20 5 48", 14);
        bad(x, "person 6 9 20 4 49", 16);
        // Of two that may not be the first.
        bad(x, "person 7 10 21 0 49", 7);
        bad(x, "person 6 10 21 0 49", 9);
        bad(x, "person 6 9 21 0 49", 11);
        bad(x, "person 6 9 20 0 49", 14);
        // A fence told in the same text, and one taken away in it.
        bad(x, "fence 5;person 0 0 0 1 5", 23);
        x.fence(6, true);
        bad(x, "person 0 0 0 1 6", 15);
        good(x, "open 6;person 0 0 0 1 6", 2);
    }

    /** seats N; scent N. */
    private static void seatsAndScentOfAText() {
        SeatsToTheReluctant x = made();
        bad(x, "seats 0", 6);
        bad(x, "seats 5", 6);
        bad(x, "scent 41", 6);
        bad(x, "seats -1", 6);
        bad(x, "scent -1", 6);
        T.due("41: seats", x.status(2), 2);
        T.due("41: scent", x.status(3), 20);
        good(x, "seats 1", 1);
        T.due("41: seats", x.status(2), 1);
        good(x, "seats 4", 1);
        T.due("41: seats", x.status(2), 4);
        good(x, "scent 0", 1);
        T.due("41: scent", x.status(3), 0);
        good(x, "scent 40", 1);
        T.due("41: scent", x.status(3), 40);
        good(x, "seats 1;seats 2;scent 3;scent 4", 4);
        T.due("41: the later holds, seats", x.status(2), 2);
        T.due("41: the later holds, scent", x.status(3), 4);
    }

    /** One blank between words and NUMBERS. */
    private static void oneBlank() {
        bad(made(), "fence1", 5);
        bad(made(), "fence  1", 6);
        bad(made(), " fence 1", 0);
        bad(made(), "fence 1 ", 7);
        bad(made(), "fence\t1", 5);
        bad(made(), "person0 0 0 1 0", 6);
        bad(made(), "person 0  0 0 1 0", 9);
        bad(made(), "person 0 0 0 1 0 0", 16);
        bad(made(), "person 0 0 0 1;open 1", 14);
        bad(made(), "person 0,0 0 1 0", 8);
        bad(made(), "seats 1 2", 7);
    }

    /** NUMBERS: 1 to 2 digits. */
    private static void digits() {
        bad(made(), "scent ", 6);
        bad(made(), "scent ;", 6);
        bad(made(), "scent x", 6);
        good(made(), "scent 7", 1);
        good(made(), "scent 07", 1);
        bad(made(), "scent 007", 8);
        bad(made(), "scent 070", 8);
        bad(made(), "scent 400", 8);
        bad(made(), "scent 7x", 7);
        bad(made(), "scent 07x", 8);
        bad(made(), "scent 410", 6);
        bad(made(), "scent 990", 6);
        // The signs ahead of 0 and behind 9.
        bad(made(), "scent /", 6);
        bad(made(), "scent :", 6);
        bad(made(), "scent 1/", 7);
        bad(made(), "scent 1:", 7);
        for (int digit = 0; digit <= 9; digit++) {
            SeatsToTheReluctant x = made();
            good(x, "scent " + digit, 1);
            T.due("41: scent", x.status(3), digit);
        }
    }

    /** All is told over what there is, or nothing. */
    private static void allOrNothing() {
        String told = "fence 1;open 2;person 1 2 3 4 5;seats 4;scent 9";
        for (int faulty = 0; faulty < 2; faulty++) {
            SeatsToTheReluctant x = one(48);
            x.fence(2, true);
            if (faulty == 0) {
                good(x, told, 5);
            } else {
                bad(x, told + ";", told.length() + 1);
            }
            T.due("15: people", x.status(0), 2 - faulty);
            T.due("15: fences", x.status(1), 1);
            T.due("15: fence at 1", x.squareOf(1, 0), 1 - faulty);
            T.due("15: fence at 2", x.squareOf(2, 0), faulty);
            T.due("15: seats", x.status(2), faulty == 0 ? 4 : 2);
            T.due("15: scent", x.status(3), faulty == 0 ? 9 : 20);
            T.due("15: who was there", x.personOf(0, 4), 48);
        }
    }

    /** What there is no room for can't stand: its word, once that is whole. */
    private static void noRoomInAText() {
        for (int ahead = 5; ahead <= 7; ahead++) {
            SeatsToTheReluctant x = people(ahead);
            String two = "person 0 0 0 1 1;person 0 0 0 1 2";
            if (ahead == 5) {
                good(x, two, 2);
            } else {
                bad(x, two, ahead == 6 ? 17 : 0);
            }
            T.due("15: people", x.status(0), ahead == 5 ? 7 : ahead);
        }
        SeatsToTheReluctant x = people(7);
        bad(x, "person", 0);
        bad(x, "person ", 0);
        bad(x, "personx", 0);
        bad(x, "perso", 5);
        bad(x, "persox", 5);
        bad(x, "p", 1);
        bad(x, "px", 1);
        bad(x, "open 1;person 9 9 9 9 9", 7);
        bad(x, "open 1;perso", 12);
        good(x, "seats 3", 1);
        // With room the same words have their faults behind them.
        x = people(6);
        bad(x, "person", 6);
        bad(x, "personx", 6);
    }

    /** The number of elements, if it ends too early: of each text each beginning that is no text. */
    private static void tooEarly() {
        String[] texts = {"fence 47", "open 13", "person 6 9 20 4 48", "seats 3", "scent 29", "open 1;scent 2"};
        for (String text : texts) {
            for (int n = 0; n < text.length(); n++) {
                String begun = text.substring(0, n);
                char last = n == 0 ? ' ' : begun.charAt(n - 1);
                boolean inPerson = text.startsWith("person") && n < 17;
                boolean whole = last >= '0' && last <= '9' && !inPerson;
                if (!whole) {
                    bad(made(), begun, n);
                    bad(made(), begun + "~", n);
                } else {
                    good(made(), begun, 1);
                    bad(made(), begun + "~", n);
                }
            }
        }
    }

    /** The first place at which an element can't stand as such texts go on. */
    private static void firstPlace() {
        bad(made(), "fonce 1", 1);
        bad(made(), "oPen 1", 1);
        bad(made(), "sea 1", 3);
        bad(made(), "sce 1", 3);
        bad(made(), "s 1", 1);
        bad(made(), "sc", 2);
        bad(made(), "se", 2);
        bad(made(), "fence 1;fenc 2", 12);
        bad(made(), "x;y", 0);
        // Each sort holds the place by its own elements.
        for (int sort = 0; sort < 4; sort++) {
            SeatsToTheReluctant x = made();
            x.row(0, sort, 160);
            T.due("15: a row of 160 zeros", x.port(0), -6);
            T.due("16: its fault", x.fault(), 0);
            x.row(0, sort, 0);
            T.due("15: a row of no elements", x.port(0), -6);
            T.due("16: its fault", x.fault(), 0);
        }
    }
}
