import java.util.ArrayList;
import java.util.Arrays;
import java.util.List;

/**
 * Every refusal of every call: by its number, in the order in which they are tried where several would fit,
 * as status(11) to status(17) count it, and that nothing changes but how many there were.
 *
 * Each call is asked by all its arguments that are worth telling apart, good and bad, each with each.
 */
public final class RefusalsTest {
    private static final int MIN = Integer.MIN_VALUE;
    private static final int MAX = Integer.MAX_VALUE;
    private static final Due T = new Due("RefusalsTest");

    // What the shelves of a world hold: a sort and a length, nothing, or one of the people.
    private static final int NOTHING = -1;
    private static final int PERSON = -2;
    private static final int[] SORTS = {0, 2, NOTHING, PERSON, 2, 3, NOTHING, 0};
    private static final int[] LENGTHS = {0, 5, 0, 0, 160, 31, 0, 7};
    private static final String TEXT = "seats 5";

    private static final int[] ALL_SHELVES = {-1, 0, 1, 2, 3, 4, 5, 7, 8, MIN, MAX};
    private static final int[] NUMBERS = {MIN, -2, -1, 0, 1, 2, 3, 5, 6, 7, 8, 30, 31, 32, 48, 49, 160, 161, MAX};
    private static final int[] PEOPLE = {-2, -1, 0, 2, 3, 6, 7, MIN, MAX};
    private static final int[] WHATS = {-1, 0, 1, 2, 3, 8, 9, MIN, MAX};
    private static final int[] YARDS = {-1, 0, 1, 30, 31, MIN, MAX};
    private static final int[] SQUARES = {-1, 0, 10, 11, 23, 24, 48, 49, MIN, MAX};

    interface Call {
        long of(SeatsToTheReluctant x, int[] v);
    }

    interface If {
        boolean is(World w, int[] v);
    }

    /** One refusal that a call may answer. */
    private static final class Why {
        final int number;
        final If fits;

        Why(int number, If fits) {
            this.number = number;
            this.fits = fits;
        }
    }

    /** An object as it is made for a call: how many people, by kinds 0, 1, ..; a fence at 11; somebody at 10. */
    private static final class World {
        final int people;
        final boolean imaged;

        World(int people, boolean imaged) {
            this.people = people;
            this.imaged = imaged;
        }

        SeatsToTheReluctant make() {
            SeatsToTheReluctant x = new SeatsToTheReluctant();
            for (int p = 0; p < people; p++) {
                x.person(p, 2, 3 * p, 1, 10 + 2 * p);
            }
            x.fence(11, true);
            if (imaged) {
                x.image();
                x.ask(0, 3);
            }
            for (int s = 0; s < 8; s++) {
                if (SORTS[s] >= 0) {
                    x.row(s, SORTS[s], LENGTHS[s]);
                } else if (SORTS[s] == PERSON && people > 0) {
                    x.show(s, 0);
                }
            }
            for (int i = 0; i < TEXT.length(); i++) {
                x.set(7, i, TEXT.charAt(i));
            }
            x.set(1, 4, 77);
            x.act(0, 2, 1);
            return x;
        }

        boolean isOne(int person) {
            return 0 <= person && person < people;
        }

        int held(int s) {
            return SORTS[s] == PERSON && people == 0 ? NOTHING : SORTS[s];
        }

        boolean holdsRow(int s) {
            return held(s) >= 0;
        }

        boolean holdsPerson(int s) {
            return held(s) == PERSON;
        }

        boolean holdsNothing(int s) {
            return held(s) == NOTHING;
        }

        boolean isFree(int square) {
            return isSquare(square) && square != 11;
        }

        boolean isSomebodyAt(int square) {
            return square >= 10 && square % 2 == 0 && isOne((square - 10) / 2);
        }
    }

    private static boolean isShelf(int s) {
        return 0 <= s && s < 8;
    }

    private static boolean isSquare(int square) {
        return 0 <= square && square < 49;
    }

    private static boolean isKind(int kind) {
        return 0 <= kind && kind < 7;
    }

    private static boolean out(int v, int least, int most) {
        return v < least || v > most;
    }

    private static Why why(int number, If fits) {
        return new Why(number, fits);
    }

    public static void main(String[] args) {
        shelves();
        copies();
        people();
        ahead();
        byRows();
        council();
        truth();
        never();
        T.end();
    }

    // ---- By calls, in the document's order of refusals

    private static final Why NO_SHELF = why(1, (w, v) -> !isShelf(v[0]));
    private static final Why PERSON_FOR_ROW = why(2, (w, v) -> w.holdsPerson(v[0]));
    private static final Why NO_ROW = why(3, (w, v) -> w.holdsNothing(v[0]));

    private static void shelves() {
        ask("2: row", (x, v) -> x.row(v[0], v[1], v[2]), 0,
            new int[][] {ALL_SHELVES, {-1, 0, 3, 4, MIN, MAX}, {-1, 0, 1, 160, 161, MIN, MAX}},
            NO_SHELF, why(4, (w, v) -> v[2] < 0), why(6, (w, v) -> out(v[1], 0, 3)), why(7, (w, v) -> v[2] > 160));
        ask("3: set", (x, v) -> x.set(v[0], v[1], 9), 0,
            new int[][] {ALL_SHELVES, {-1, 0, 4, 5, 6, 30, 31, 159, 160, MIN, MAX}},
            NO_SHELF, PERSON_FOR_ROW, NO_ROW, why(5, (w, v) -> out(v[1], 0, LENGTHS[v[0]] - 1)));
        ask("6: show", (x, v) -> x.show(v[0], v[1]), 0,
            new int[][] {ALL_SHELVES, PEOPLE},
            why(1, (w, v) -> !isShelf(v[0]) || v[1] != -1 && !w.isOne(v[1])));
        // Who is shown is a PERSON and of no kind under it.
        ask("8: says", (x, v) -> x.says(v[0], v[1]), 0,
            new int[][] {ALL_SHELVES, {-1, 0, 1, 6, 7, MIN, MAX}},
            why(1, (w, v) -> !isShelf(v[0]) || !isKind(v[1])),
            why(2, (w, v) -> w.holdsRow(v[0]) || w.holdsPerson(v[0]) && v[1] != 0),
            NO_ROW);
    }

    private static void copies() {
        ask("4: copy", (x, v) -> x.copy(v[0], v[1], v[2], v[3], v[4]), 0,
            new int[][] {
                {-1, 0, 1, 2, 3, 4, 5, 8}, {-1, 1, 2, 3, 4, 7, 8}, {-1, 0, 5, 6, MAX}, {-1, 0, 5, 160, MIN},
                {-1, 0, 1, 5, 155, MAX}
            },
            why(1, (w, v) -> !isShelf(v[0]) || !isShelf(v[1])),
            why(2, (w, v) -> w.holdsPerson(v[0]) || w.holdsPerson(v[1])
                || w.holdsRow(v[0]) && w.holdsRow(v[1]) && w.held(v[0]) != w.held(v[1])),
            why(3, (w, v) -> w.holdsNothing(v[0]) || w.holdsNothing(v[1])),
            why(4, (w, v) -> v[4] < 0),
            why(5, (w, v) -> v[2] < 0 || v[3] < 0 || (long) v[2] + v[4] > LENGTHS[v[0]]
                || (long) v[3] + v[4] > LENGTHS[v[1]]));
    }

    private static void people() {
        ask("9: person", (x, v) -> x.person(v[0], v[1], v[2], v[3], v[4]), 0,
            new int[][] {
                {-1, 0, 6, 7}, {-1, 0, 9, 10, MIN}, {-1, 0, 20, 21, MAX}, {0, 1, 4, 5}, {-1, 0, 11, 24, 48, 49}
            },
            why(1, (w, v) -> !isKind(v[0])),
            why(6, (w, v) -> out(v[1], 0, 9) || out(v[2], 0, 20) || out(v[3], 1, 4) || !w.isFree(v[4])),
            why(7, (w, v) -> w.people == 7));
        ask("10: fence", (x, v) -> x.fence(v[0], v[1] == 1), 0,
            new int[][] {SQUARES, {0, 1}},
            why(6, (w, v) -> !isSquare(v[0]) || v[0] == 24 || w.isSomebodyAt(v[0])));
        ask("11: tell", (x, v) -> x.tell(v[0], v[1], v[2]), 0,
            new int[][] {PEOPLE, WHATS, {-1, 0, 1, 4, 5, 10, 11, 20, 21, 24, 48, 49, MIN, MAX}},
            why(1, (w, v) -> !w.isOne(v[0])),
            why(6, (w, v) -> out(v[1], 0, 2) || v[1] == 0 && out(v[2], 0, 20) || v[1] == 1 && out(v[2], 1, 4)
                || v[1] == 2 && !w.isFree(v[2])));
        ask("12: ask", (x, v) -> x.ask(v[0], v[1]), 0,
            new int[][] {WHATS, {-1, 0, 1, 4, 5, 40, 41, MIN, MAX}},
            why(6, (w, v) -> out(v[0], 0, 1) || v[0] == 0 && out(v[1], 1, 4) || v[0] == 1 && out(v[1], 0, 40)));
        ask("13: personOf", (x, v) -> x.personOf(v[0], v[1]), 0,
            new int[][] {PEOPLE, WHATS},
            why(5, (w, v) -> !w.isOne(v[0]) || out(v[1], 0, 8)));
        ask("14: squareOf", (x, v) -> x.squareOf(v[0], v[1]), 0,
            new int[][] {SQUARES, WHATS},
            why(5, (w, v) -> !isSquare(v[0]) || out(v[1], 0, 1)));
        ask("17: far", (x, v) -> x.far(v[0]), 0, new int[][] {SQUARES}, why(6, (w, v) -> !isSquare(v[0])));
        ask("18: who", (x, v) -> x.who(v[0]), 0, new int[][] {WHATS}, why(5, (w, v) -> out(v[0], 0, 2)));
    }

    private static final Why NOBODY = why(1, (w, v) -> !w.isOne(v[0]));

    private static void ahead() {
        Why yards = why(6, (w, v) -> out(v[1], 0, 30));
        ask("19: where", (x, v) -> x.where(v[0], v[1]), 0, new int[][] {PEOPLE, YARDS}, NOBODY, yards);
        ask("20: chosen", (x, v) -> x.chosen(v[0]), 0, new int[][] {YARDS}, why(6, (w, v) -> out(v[0], 0, 30)));
        ask("21: hide", (x, v) -> x.hide(v[0], v[1]), 10, new int[][] {PEOPLE, YARDS}, NOBODY, yards);
        ask("22: to", (x, v) -> x.to(v[0], v[1]), 10, new int[][] {PEOPLE, SQUARES},
            NOBODY, why(6, (w, v) -> !w.isFree(v[1])));
        ask("23: spared", (x, v) -> x.spared(v[0], v[1]), 10, new int[][] {PEOPLE, YARDS}, NOBODY, yards);
        ask("24: wanting", (x, v) -> x.wanting(v[0], v[1], v[2]), 10, new int[][] {PEOPLE, YARDS, WHATS},
            NOBODY, why(5, (w, v) -> out(v[2], 0, 1)), yards);
        ask("25: without", (x, v) -> x.without(v[0], v[1]), 0, new int[][] {PEOPLE, YARDS}, NOBODY, yards);
        ask("27: tells", (x, v) -> x.tells(v[0], v[1]), 0, new int[][] {PEOPLE, WHATS},
            NOBODY, why(5, (w, v) -> out(v[1], 0, 1)));
        ask("30: bell", (x, v) -> x.bell(v[0]), 10, new int[][] {PEOPLE}, NOBODY);
        ask("31: crowd", (x, v) -> x.crowd(v[0], v[1]), 10, new int[][] {YARDS, WHATS},
            why(5, (w, v) -> out(v[1], 0, 1)), why(6, (w, v) -> out(v[0], 0, 30)));
    }

    private static void byRows() {
        ask("15: port", (x, v) -> x.port(v[0]), 0, new int[][] {ALL_SHELVES},
            NO_SHELF, PERSON_FOR_ROW, NO_ROW, why(6, (w, v) -> true));
        ask("26: fits", (x, v) -> x.fits(v[0], v[1], v[2], v[3]), 0,
            new int[][] {ALL_SHELVES, {-1, 0, 6, 7}, {-1, 0, 5, 6, 30, 31, 32, 161, MIN, MAX}, {-1, 0, 1, 2}},
            why(1, (w, v) -> !isShelf(v[0]) || !w.isOne(v[1])), PERSON_FOR_ROW, NO_ROW,
            why(4, (w, v) -> v[2] < 0),
            why(5, (w, v) -> v[2] > LENGTHS[v[0]] || out(v[3], 0, 1)),
            why(6, (w, v) -> v[2] > 30));
        ask("32: judge", (x, v) -> x.judge(v[0], v[1], v[2]), 10, new int[][] {ALL_SHELVES, NUMBERS, YARDS},
            NO_SHELF, PERSON_FOR_ROW, NO_ROW,
            why(4, (w, v) -> v[1] < 0),
            why(5, (w, v) -> v[1] > LENGTHS[v[0]]),
            why(6, (w, v) -> out(v[2], 0, 30) || v[1] > w.people));
    }

    private static final int[] SETS = {0, 1, 2, 7, 8, 9, 64, 65, 127, 128, 129, 256, MIN, MIN + 1, MAX, -1};

    private static void council() {
        ask("28: power", (x, v) -> x.power(v[0], v[1]), 0, new int[][] {PEOPLE, SETS},
            NOBODY,
            why(5, (w, v) -> (v[1] >> v[0] & 1) == 0),
            why(6, (w, v) -> v[1] < 0 || v[1] >= 1 << w.people));
        ask("29: carries", (x, v) -> x.carries(v[0]), 0, new int[][] {SETS},
            why(6, (w, v) -> v[0] < 0 || v[0] >= 1 << w.people));
    }

    private static void truth() {
        ask("33: run", (x, v) -> x.run(v[0]), 0, new int[][] {NUMBERS}, why(6, (w, v) -> out(v[0], 1, 30)));
        ask("34: vote", (x, v) -> x.vote(), 0, new int[][] {{0}});
        ask("35: years", (x, v) -> x.years(v[0]), 0, new int[][] {{-1, 0, 1, 40, 41, MIN, MAX}},
            why(5, (w, v) -> w.people == 0), why(6, (w, v) -> out(v[0], 1, 40)));
        ask("39: image", (x, v) -> x.image(), 0, new int[][] {{0}});
        ask("40: restore", (x, v) -> x.restore(), 0, new int[][] {{0}}, why(6, (w, v) -> !w.imaged));
    }

    /** By which nothing is ever refused, so nothing counted. */
    private static void never() {
        uncounted("5: element", (x, v) -> x.element(v[0], v[1]), ALL_SHELVES, NUMBERS);
        uncounted("7: holds", (x, v) -> x.holds(v[0]), ALL_SHELVES);
        uncounted("16: fault", (x, v) -> x.fault(), new int[] {0});
        uncounted("36: seed", (x, v) -> x.seed(v[0]), NUMBERS);
        uncounted("37: act", (x, v) -> x.act(v[0], v[1], v[2]), PEOPLE, WHATS, NUMBERS);
        uncounted("38: trace", (x, v) -> x.trace(v[0]), NUMBERS);
        uncounted("41: status", (x, v) -> x.status(v[0]), NUMBERS);
    }

    private static void uncounted(String name, Call call, int[]... values) {
        for (int people : new int[] {0, 7}) {
            World world = new World(people, false);
            for (int[] v : each(values)) {
                SeatsToTheReluctant x = world.make();
                call.of(x, v);
                counts(name + Arrays.toString(v) + " with " + people, x, 0);
            }
        }
    }

    // ---- How a call is asked

    private static void ask(String name, Call call, int apart, int[][] values, Why... whys) {
        boolean[] came = new boolean[whys.length];
        boolean taken = false;
        for (int people : new int[] {0, 3, 7}) {
            for (int imaged = 0; imaged < 2; imaged++) {
                World world = new World(people, imaged == 1);
                for (int[] v : each(values)) {
                    int first = firstOf(whys, world, v);
                    String of = name + Arrays.toString(v) + " with " + people;
                    if (first < whys.length) {
                        came[first] = true;
                        refused(of, call, apart + whys[first].number, world, v);
                    } else {
                        taken = true;
                        SeatsToTheReluctant x = world.make();
                        long got = call.of(x, v);
                        T.due(of + " isn't refused, but " + got, got >= (apart == 0 ? 0 : -1) ? 1 : 0, 1);
                        counts(of, x, 0);
                    }
                }
            }
        }
        for (int i = 0; i < came.length; i++) {
            T.due(name + " has been refused by " + whys[i].number, came[i] ? 1 : 0, 1);
        }
        // By the rows here no text is good.
        T.due(name + " has been taken", taken || name.startsWith("15") ? 1 : 0, 1);
    }

    private static int firstOf(Why[] whys, World world, int[] v) {
        for (int i = 0; i < whys.length; i++) {
            if (whys[i].fits.is(world, v)) {
                return i;
            }
        }
        return whys.length;
    }

    private static void refused(String of, Call call, int number, World world, int[] v) {
        SeatsToTheReluctant x = world.make();
        SeatsToTheReluctant y = world.make();
        T.due(of, call.of(x, v), -number);
        counts(of, x, number % 10);
        // Of port() alone the FAULT is told.
        alike(of, x, y, of.startsWith("15") && number == 6);
    }

    private static void counts(String of, SeatsToTheReluctant x, int refusal) {
        for (int r = 1; r <= 7; r++) {
            T.due(of + ", status(" + (10 + r) + ")", x.status(10 + r), r == refusal ? 1 : 0);
        }
    }

    /** Nothing has changed: all that can be asked is as it is of another, and what is done to both goes on alike. */
    private static void alike(String of, SeatsToTheReluctant x, SeatsToTheReluctant y, boolean isFaulty) {
        long[] got = allOf(x);
        long[] due = allOf(y);
        for (int i = 0; i < got.length; i++) {
            if (got[i] != due[i]) {
                T.due(of + " changes nothing, " + i, got[i], due[i]);
            }
        }
        T.due(of + " changes nothing", Arrays.equals(got, due) ? 1 : 0, 1);
        if (!isFaulty) {
            T.due(of + ", fault()", x.fault(), -1);
        }
    }

    private static long[] allOf(SeatsToTheReluctant x) {
        List<Long> all = new ArrayList<>();
        for (int what = 0; what <= 8; what++) {
            all.add((long) x.status(what));
        }
        for (int s = 0; s < 8; s++) {
            all.add((long) x.holds(s));
            for (int i : new int[] {0, 1, 4, 5, 6, 159}) {
                all.add(x.element(s, i));
            }
        }
        for (int i = 0; i <= 4; i++) {
            all.add((long) x.trace(i));
        }
        askPort(x, all);
        // What comes of draws, and of the image, if there is one.
        all.add((long) x.years(2));
        all.add((long) x.status(7));
        askPort(x, all);
        all.add((long) x.restore());
        all.add((long) x.status(2));
        all.add((long) x.holds(3));
        askPort(x, all);
        long[] values = new long[all.size()];
        for (int i = 0; i < values.length; i++) {
            values[i] = all.get(i);
        }
        return values;
    }

    private static void askPort(SeatsToTheReluctant x, List<Long> all) {
        for (int p = 0; p < x.status(0); p++) {
            for (int what = 0; what <= 5; what++) {
                all.add((long) x.personOf(p, what));
            }
        }
        for (int square : new int[] {0, 5, 10, 11, 12, 24, 48}) {
            all.add((long) x.squareOf(square, 0));
        }
    }

    /** Every choice of one value of each. */
    private static List<int[]> each(int[]... values) {
        List<int[]> all = new ArrayList<>();
        int[] places = new int[values.length];
        boolean more = true;
        while (more) {
            int[] v = new int[values.length];
            for (int i = 0; i < v.length; i++) {
                v[i] = values[i][places[i]];
            }
            all.add(v);
            int i = 0;
            while (i < v.length && ++places[i] == values[i].length) {
                places[i] = 0;
                i++;
            }
            more = i < v.length;
        }
        return all;
    }
}
