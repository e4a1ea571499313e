/** The bounds that "Terms" 2 names, sentence by sentence: far, fleeing, steps, yards, smell, who is chosen. */
public final class RunningBoundsTest {
    private static final Due T = new Due("RunningBoundsTest");

    public static void main(String[] args) {
        far();
        farthest();
        flees();
        stepOfOneWhoFlees();
        stepOfOneWhoDoesnt();
        leastOfSeveral();
        paces();
        faints();
        yards();
        smell();
        putOut();
        chosen();
        T.end();
    }

    private static SeatsToTheReluctant one(int kind, int a, int want, int speed, int at) {
        SeatsToTheReluctant x = new SeatsToTheReluctant();
        x.person(kind, a, want, speed, at);
        return x;
    }

    /** FAR: the fewest steps; 99: there is no way, or it has a FENCE. */
    private static void far() {
        SeatsToTheReluctant x = new SeatsToTheReluctant();
        T.due("17: the lamp", x.far(24), 0);
        for (int square : new int[] {17, 23, 25, 31}) {
            T.due("17: beside the lamp", x.far(square), 1);
        }
        for (int square : new int[] {0, 6, 42, 48}) {
            T.due("17: a corner", x.far(square), 6);
        }
        x.fence(1, true);
        T.due("17: a fence", x.far(1), 99);
        T.due("17: the corner by its other side", x.far(0), 6);
        x.fence(7, true);
        T.due("17: no way from the corner", x.far(0), 99);
        x.fence(1, false);
        T.due("17: a way again", x.far(0), 6);
        Due.closeLamp(x);
        for (int square = 0; square < 49; square++) {
            T.due("17: the lamp closed in, far(" + square + ")", x.far(square), square == 24 ? 0 : 99);
        }
    }

    // From the lamp to 4 by 32 steps, with fences about it the only way; no way from the lamp is longer.
    private static final int[] LONG_WAY = {
        24, 17, 10, 9, 2, 1, 0, 7, 14, 15, 22, 29, 28, 35, 42, 43, 44, 37, 38, 39, 46, 47, 48, 41, 34, 33, 26, 19, 20,
        13, 6, 5, 4
    };
    private static final int END = LONG_WAY.length - 1;

    private static SeatsToTheReluctant longWay() {
        SeatsToTheReluctant x = new SeatsToTheReluctant();
        boolean[] open = new boolean[49];
        for (int square : LONG_WAY) {
            open[square] = true;
        }
        for (int square = 0; square < 49; square++) {
            if (!open[square]) {
                x.fence(square, true);
            }
        }
        return x;
    }

    /** A way that goes about: as far as its steps, and no farther than it leads. */
    private static void farthest() {
        SeatsToTheReluctant x = longWay();
        for (int steps = 0; steps < LONG_WAY.length; steps++) {
            T.due("17: " + steps + " steps away", x.far(LONG_WAY[steps]), steps);
        }
        x.person(0, 0, 0, 1, 24);
        for (int n = 0; n <= 30; n++) {
            int at = LONG_WAY[n];
            T.due("19: behind " + n + " yards of one step", x.where(0, n), at);
            T.due("21: in " + n + " steps", x.hide(0, n), at);
        }
        x.run(30);
        T.due("19: behind 30 in truth and 1", x.where(0, 1), LONG_WAY[31]);
        T.due("19: behind 30 in truth and 2", x.where(0, 2), LONG_WAY[32]);
        T.due("19: behind 30 in truth and 30", x.where(0, 30), LONG_WAY[32]);
        x.tell(0, 2, LONG_WAY[END]);
        x.tell(0, 0, 20);
        for (int n = 0; n <= 30; n++) {
            T.due("19: back behind " + n, x.where(0, n), LONG_WAY[END - n]);
        }
        for (int steps = 0; steps < LONG_WAY.length; steps++) {
            T.due("22: to the " + steps + ".", x.to(0, LONG_WAY[steps]), END - steps);
        }
    }

    /** FLEES: PERSON, LADY, FAINTER: WANT below 10; COWARD, PRETENDER, CLERK: below 10, and a together; LONGER: never. */
    private static void flees() {
        for (int kind = 0; kind < 7; kind++) {
            for (int a = 0; a <= 9; a++) {
                int bound = kind == 1 || kind == 3 || kind == 6 ? 10 + a : kind == 4 ? 0 : 10;
                for (int want : new int[] {0, bound - 1, bound, bound + 1, 20}) {
                    if (want >= 0) {
                        SeatsToTheReluctant x = one(kind, a, want, 1, 24);
                        String of = "a " + kind + " of a " + a + " and want " + want;
                        T.due("13: flees, " + of, x.personOf(0, 7), want < bound ? 1 : 0);
                        T.due("18: flees, " + of, x.who(2), want < bound ? 1 : 0);
                    }
                }
            }
        }
    }

    /** Of one who flees: the greatest FAR (99 is none), if that is greater than where he is; else he stays. */
    private static void stepOfOneWhoFlees() {
        for (int corner : new int[] {0, 6, 42, 48}) {
            T.due("19: at the furthest he stays", one(0, 0, 0, 1, corner).where(0, 1), corner);
        }
        SeatsToTheReluctant x = one(0, 0, 0, 1, 2);
        x.fence(1, true);
        x.fence(9, true);
        // Left of 2 is a fence, right of it is 3, which is as far as the way leads him back.
        T.due("17: his far", x.far(2), 4);
        T.due("19: beside is less only", x.where(0, 1), 2);
        x = one(0, 0, 0, 1, 17);
        x.fence(10, true);
        T.due("19: beside him 16 and 18 are further", x.where(0, 1), 16);
        x.fence(9, true);
        x.fence(15, true);
        T.due("19: 16, and no farther there", x.where(0, 2), 16);
        // 99 is no greater FAR, but none: the squares cut off aren't gone to.
        x = one(0, 0, 0, 1, 8);
        x.fence(1, true);
        x.fence(7, true);
        T.due("17: cut off", x.far(0), 99);
        T.due("19: he doesn't go there", x.where(0, 30), 8);
        x = one(0, 0, 0, 4, 24);
        Due.closeLamp(x);
        T.due("19: about him all is 99", x.where(0, 30), 24);
        x = one(0, 0, 0, 4, 0);
        Due.closeLamp(x);
        T.due("19: he and all about him is 99", x.where(0, 30), 0);
    }

    /** Of one who doesn't: the least FAR, if that is less; else he stays. */
    private static void stepOfOneWhoDoesnt() {
        T.due("19: at the lamp he stays", one(0, 0, 20, 4, 24).where(0, 30), 24);
        T.due("19: no step beyond it", one(0, 0, 20, 4, 23).where(0, 1), 24);
        SeatsToTheReluctant x = one(4, 0, 0, 1, 10);
        x.fence(17, true);
        T.due("19: about the fence, farther first is never", x.where(0, 1), 9);
        Due.closeLamp(x);
        T.due("19: where no way leads he stays", x.where(0, 30), 10);
    }

    /** Of several the least, for both. */
    private static void leastOfSeveral() {
        T.due("19: of 17, 23, 25, 31 that are as far", one(0, 0, 0, 1, 24).where(0, 1), 17);
        SeatsToTheReluctant x = one(0, 0, 0, 1, 24);
        x.fence(17, true);
        T.due("19: of 23, 25, 31", x.where(0, 1), 23);
        x.fence(23, true);
        T.due("19: of 25, 31", x.where(0, 1), 25);
        x.fence(25, true);
        T.due("19: of 31 alone", x.where(0, 1), 31);
        // To the lamp from the corners: up ahead of left ahead of right ahead of down.
        T.due("19: from 48 of 41, 47", one(4, 0, 0, 1, 48).where(0, 1), 41);
        T.due("19: from 42 of 35, 43", one(4, 0, 0, 1, 42).where(0, 1), 35);
        T.due("19: from 6 of 5, 13", one(4, 0, 0, 1, 6).where(0, 1), 5);
        T.due("19: from 0 of 1, 7", one(4, 0, 0, 1, 0).where(0, 1), 1);
    }

    /** PACE: SPEED; LADY half of it, upward; FAINTER as she; CLERK SPEED and 1. */
    private static void paces() {
        int[][] due = {{1, 2, 3, 4}, {1, 2, 3, 4}, {1, 1, 2, 2}, {1, 2, 3, 4}, {1, 2, 3, 4}, {1, 1, 2, 2}, {2, 3, 4, 5}};
        for (int kind = 0; kind < 7; kind++) {
            for (int speed = 1; speed <= 4; speed++) {
                SeatsToTheReluctant x = longWay();
                // One who longs goes back, from the end.
                x.person(kind, 9, 0, speed, kind == 4 ? LONG_WAY[END] : 24);
                x.run(1);
                x.tell(0, 2, kind == 4 ? LONG_WAY[END] : 24);
                x.run(1);
                int steps = kind == 4 ? END - x.far(x.personOf(0, 4)) : x.far(x.personOf(0, 4));
                T.due("33: paces of a " + kind + " of speed " + speed, steps, due[kind][speed - 1]);
            }
        }
    }

    /** FAINTER: none in a YARD whose number (YARDS ahead of it) is a multiple of a and 2 together. */
    private static void faints() {
        for (int a = 0; a <= 9; a++) {
            SeatsToTheReluctant x = longWay();
            x.person(5, a, 0, 1, 24);
            SeatsToTheReluctant y = longWay();
            y.person(5, a, 0, 1, 24);
            int at = 0;
            for (int yard = 0; yard < 30; yard++) {
                at = Math.min(END, at + (yard % (a + 2) == 0 ? 0 : 1));
                T.due("19: a " + a + " behind " + (yard + 1), x.where(0, yard + 1), LONG_WAY[at]);
                y.run(1);
                T.due("33: a " + a + " behind " + (yard + 1), y.personOf(0, 4), LONG_WAY[at]);
            }
        }
    }

    /** YARDS is 1 more: in each yard in truth, and in none that is told only. */
    private static void yards() {
        SeatsToTheReluctant x = one(5, 0, 0, 1, 24);
        T.due("33: run(1)", x.run(1), 1);
        T.due("33: run(30)", x.run(30), 31);
        x.where(0, 30);
        x.chosen(30);
        x.crowd(30, 0);
        x.tells(0, 0);
        T.due("41: no more by what is told", x.status(4), 31);
        // Yard 31 is no multiple of 2, so he runs in it; with 32 ahead he faints.
        x = one(5, 0, 0, 1, 24);
        x.run(30);
        x.run(1);
        x.tell(0, 2, 24);
        T.due("19: in yard 31", x.where(0, 1), 17);
        x.run(1);
        x.tell(0, 2, 24);
        T.due("19: in yard 32", x.where(0, 1), 24);
    }

    /** SMELL: WANT; half of it (cut); WANT and a; 3 more. */
    private static void smell() {
        for (int want = 0; want <= 20; want++) {
            for (int a : new int[] {0, 9}) {
                int[] due = {want, want, want / 2, want + a, want, want / 2, want + a + 3};
                for (int kind = 0; kind < 7; kind++) {
                    String of = "a " + kind + " of a " + a + " and want " + want;
                    T.due("13: smell of " + of, one(kind, a, want, 1, 0).personOf(0, 6), due[kind]);
                }
            }
        }
    }

    /** PUT OUT, if SMELL is above SCENT. */
    private static void putOut() {
        for (int kind = 0; kind < 7; kind++) {
            for (int want : new int[] {0, 1, 9, 20}) {
                SeatsToTheReluctant x = one(kind, 9, want, 1, 0);
                int smell = x.personOf(0, 6);
                for (int scent : new int[] {0, smell - 1, smell, smell + 1, 40}) {
                    if (scent >= 0) {
                        x.ask(1, scent);
                        int out = smell > scent ? 1 : 0;
                        String of = "smell " + smell + " and scent " + scent;
                        T.due("13: put out, " + of, x.personOf(0, 8), out);
                        T.due("18: put out, " + of, x.who(1), out);
                        T.due("18: chosen, " + of, x.who(0), 1 - out);
                        T.due("20: chosen, " + of, x.chosen(30), 1 - out);
                        T.due("25: without him, " + of, x.without(0, 0), 0);
                    }
                }
            }
        }
        T.due("13: the greatest smell isn't above the greatest scent", one(6, 9, 20, 1, 0).personOf(0, 6), 32);
    }

    /** CHOSEN: the SEATS of greatest FAR (below 99), of several alike by numbers; fewer, if there are no more. */
    private static void chosen() {
        for (int people = 0; people <= 7; people++) {
            for (int seats = 1; seats <= 4; seats++) {
                SeatsToTheReluctant x = new SeatsToTheReluctant();
                SeatsToTheReluctant y = new SeatsToTheReluctant();
                for (int p = 0; p < people; p++) {
                    x.person(0, 0, 0, 1, 48);
                    // The later the further: 24, 17, 10, 9, 2, 1, 0.
                    y.person(0, 0, 0, 1, LONG_WAY[p]);
                }
                x.ask(0, seats);
                y.ask(0, seats);
                int seated = Math.min(people, seats);
                String of = seats + " seats for " + people;
                T.due("18: alike by numbers, " + of, x.who(0), (1 << seated) - 1);
                T.due("18: the furthest, " + of, y.who(0), (1 << people) - (1 << people - seated));
                T.due("34: a vote of " + of, y.vote(), (1 << people) - (1 << people - seated));
            }
        }
        SeatsToTheReluctant x = one(0, 0, 0, 1, 24);
        T.due("18: at the lamp, FAR 0", x.who(0), 1);
        x.tell(0, 2, 0);
        x.fence(1, true);
        x.fence(7, true);
        T.due("18: FAR 99", x.who(0), 0);
        x.person(0, 0, 0, 1, 24);
        T.due("18: FAR 0 ahead of 99", x.who(0), 2);
        x.fence(7, false);
        x.ask(0, 1);
        T.due("18: FAR 6 ahead of 0", x.who(0), 1);
        x = longWay();
        x.person(0, 0, 0, 1, LONG_WAY[31]);
        x.person(0, 0, 0, 1, LONG_WAY[32]);
        x.ask(0, 1);
        T.due("18: FAR 32 ahead of 31", x.who(0), 2);
    }
}
