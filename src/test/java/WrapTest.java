import java.math.BigInteger;

/** What wraps around: the SEED and its draws, x of a MOVE, what is put into a ROW of each SORT. */
public final class WrapTest {
    private static final int MIN = Integer.MIN_VALUE;
    private static final int MAX = Integer.MAX_VALUE;
    private static final long LEAST = Long.MIN_VALUE;
    private static final long MOST = Long.MAX_VALUE;
    private static final BigInteger ALL = BigInteger.ONE.shiftLeft(32);
    private static final BigInteger TIMES = BigInteger.valueOf(1103515245);
    private static final BigInteger AND = BigInteger.valueOf(12345);
    private static final Due T = new Due("WrapTest");

    public static void main(String[] args) {
        seedTakesEveryInt();
        seedOfADraw();
        draws();
        drawsByHowMany();
        moves();
        movesAtTheEnds();
        bytes();
        shorts();
        ints();
        longs();
        everySortByItsBits();
        copiedAsTheyAre();
        readAsInts();
        T.end();
    }

    // ---- SEED

    private static void seedTakesEveryInt() {
        SeatsToTheReluctant x = new SeatsToTheReluctant();
        int was = 1;
        for (int v : new int[] {0, -1, MIN, MAX, 1, 12345}) {
            T.due("36: seed(" + v + ")", x.seed(v), was);
            T.due("41: the seed", x.status(7), v);
            was = v;
        }
        for (int what = 11; what <= 17; what++) {
            T.due("36: nothing is refused", x.status(what), 0);
        }
    }

    private static BigInteger next(BigInteger seed) {
        return seed.multiply(TIMES).add(AND).mod(ALL);
    }

    /** From which seed one draw leads to another. */
    private static int before(int seed) {
        return BigInteger.valueOf(seed).subtract(AND).multiply(TIMES.modInverse(ALL)).mod(ALL).intValue();
    }

    private static SeatsToTheReluctant people(int n) {
        SeatsToTheReluctant x = new SeatsToTheReluctant();
        for (int p = 0; p < n; p++) {
            x.person(4, 0, 0, 1, 24);
        }
        return x;
    }

    /** SEED times 1103515245, and 12345 (an int, wrapping): three draws a year. */
    private static void seedOfADraw() {
        for (int seed : new int[] {0, 1, 2, -1, MIN, MAX, 65536, -65536, before(0), before(MIN), before(MAX)}) {
            SeatsToTheReluctant x = people(1);
            x.seed(seed);
            BigInteger state = BigInteger.valueOf(seed).mod(ALL);
            for (int year = 1; year <= 3; year++) {
                T.due("35: years(1)", x.years(1), year);
                state = next(next(next(state)));
                T.due("35: the seed from " + seed + " behind " + year, x.status(7), state.intValue());
            }
        }
    }

    /** Its upper 16 bits, no sign, modulo n. */
    private static void draws() {
        int[] states = {0, 65535, 65536, -1, -65536, MIN, MAX, 0x80010000, 0xFFFEFFFF, 0x7FFF0000, 20 << 16, 21 << 16};
        for (int state : states) {
            int upper = state >>> 16;
            // The first draw leads to the state: whose want.
            for (int n = 1; n <= 7; n++) {
                SeatsToTheReluctant x = people(n);
                x.seed(before(state));
                for (int p = 0; p < n; p++) {
                    x.tell(p, 0, 20);
                }
                BigInteger second = next(BigInteger.valueOf(state).mod(ALL));
                int want = second.shiftRight(16).intValue() % 21;
                int yards = next(second).shiftRight(16).intValue() % 5 + 1;
                x.years(1);
                for (int p = 0; p < n; p++) {
                    T.due("35: want of " + p + " of " + n, x.personOf(p, 2), p == upper % n ? want : 20);
                }
                T.due("41: yards", x.status(4), yards);
            }
            // The second draw leads to the state: what want.
            SeatsToTheReluctant x = people(1);
            x.seed(before(before(state)));
            x.years(1);
            T.due("35: the want by upper bits " + upper, x.personOf(0, 2), upper % 21);
            // The third: how many yards.
            x = people(1);
            x.seed(before(before(before(state))));
            x.years(1);
            T.due("41: the yards by upper bits " + upper, x.status(4), upper % 5 + 1);
            T.due("41: the seed", x.status(7), state);
        }
    }

    /** A draw below how many there are: 1, and 7. */
    private static void drawsByHowMany() {
        for (int n : new int[] {1, 7}) {
            boolean[] whose = new boolean[n];
            for (int upper = 0; upper < 14; upper++) {
                SeatsToTheReluctant x = people(n);
                for (int p = 0; p < n; p++) {
                    x.tell(p, 0, 20);
                }
                x.seed(before(upper << 16));
                x.years(1);
                for (int p = 0; p < n; p++) {
                    whose[p] |= x.personOf(p, 2) != 20;
                }
            }
            for (int p = 0; p < n; p++) {
                T.due("35: each of " + n + " may be drawn, " + p, whose[p] ? 1 : 0, 1);
            }
        }
    }

    // ---- MOVES

    // What the moves come to, over longs, of which the lowest 32 bits are those of ints that wrap.
    private static long runs(int kind, long x, long m, long k) {
        switch (kind) {
            case 1:
                return x + m + k;
            case 3:
                return x + 1 + m + k;
            case 4:
                return x;
            case 6:
                return 2 * (x + 1 + m + k);
            default:
                return x + m;
        }
    }

    private static long hides(int kind, long x, long m, long k) {
        if (kind == 2 || kind == 5) {
            return 6 * runs(kind, x, m, k);
        }
        return 2 * runs(kind, kind == 6 ? x - k : x, m, k);
    }

    private static long sits(int kind, long x, long m, long k) {
        long sum = hides(kind, x, m, k) ^ runs(kind, x - k, m, k);
        return kind == 4 ? -(int) sum : kind == 5 ? sum ^ 5 : sum;
    }

    /** MOVES with x (wrapping): each kind's by each number of people and a, at the ends of the ints. */
    private static void moves() {
        int[] values = {
            0, 1, -1, MAX, MAX - 1, MAX - 6, MAX - 15, MIN, MIN + 1, MIN + 9, 1 << 30, (1 << 30) - 1, -(1 << 30),
            -(1 << 30) - 1, MAX / 3, MAX / 3 + 1, MAX / 6, MAX / 6 + 1, MIN / 3 - 1, MIN / 6 - 1, 1431655765
        };
        for (int kind = 0; kind < 7; kind++) {
            for (int a : new int[] {0, 1, 9}) {
                SeatsToTheReluctant x = new SeatsToTheReluctant();
                for (int m = 0; m < 7; m++) {
                    x.person(kind, a, 0, 1, 0);
                }
                for (int m : new int[] {0, 6}) {
                    for (int v : values) {
                        String of = " of a " + kind + ", number " + m + ", a " + a + ", x " + v;
                        T.due("37: runs" + of, x.act(m, 0, v), (int) runs(kind, v, m, a));
                        T.due("37: hides" + of, x.act(m, 1, v), (int) hides(kind, v, m, a));
                        T.due("37: sits" + of, x.act(m, 2, v), (int) sits(kind, v, m, a));
                    }
                }
            }
        }
    }

    /** The same by numbers written out. */
    private static void movesAtTheEnds() {
        SeatsToTheReluctant x = new SeatsToTheReluctant();
        x.person(0, 0, 0, 1, 0);
        x.person(0, 1, 0, 1, 0);
        T.due("37: 10 wraps upward", x.act(1, 0, MAX), MIN);
        T.due("37: 11 times 2", x.act(0, 1, 1 << 30), MIN);
        T.due("37: 11 times 2", x.act(0, 1, MIN), 0);
        T.due("37: 12, x - k wraps downward", x.act(1, 2, MIN), 2 ^ MIN);
        x = new SeatsToTheReluctant();
        x.person(3, 0, 0, 1, 0);
        x.person(2, 0, 0, 1, 0);
        x.person(4, 0, 0, 1, 0);
        x.person(6, 1, 0, 1, 0);
        T.due("37: 40, x + 1 wraps upward", x.act(0, 0, MAX), MIN);
        // The lady runs to 1 << 30, hides by 2 to MIN, and 3 times MIN is MIN; from one less she hides by 2 to MAX - 1.
        T.due("37: 30 times 3", x.act(1, 1, (1 << 30) - 1), MIN);
        T.due("37: 30 times 3", x.act(1, 1, (1 << 30) - 2), MAX - 5);
        T.due("37: 50 of MIN is MIN", x.act(2, 2, MIN), MIN);
        T.due("37: 51 wraps there and back", x.act(2, 0, MAX), MAX);
        T.due("37: 71, x - k wraps downward", x.act(3, 1, MIN), 16);
        x = new SeatsToTheReluctant();
        x.person(1, 9, 0, 1, 0);
        T.due("37: 20 wraps upward", x.act(0, 0, MAX), MIN + 8);
    }

    // ---- ROWS

    private static void put(int sort, long v, long due) {
        SeatsToTheReluctant x = new SeatsToTheReluctant();
        x.row(0, sort, 3);
        T.due("3: set to " + v, x.set(0, 1, v), 1);
        T.due("5: " + v + " in sort " + sort, x.element(0, 1), due);
        T.due("5: ahead of it", x.element(0, 0), 0);
        T.due("5: behind it", x.element(0, 2), 0);
    }

    private static void bytes() {
        put(0, 127, 127);
        put(0, 128, -128);
        put(0, 255, -1);
        put(0, 256, 0);
        put(0, 257, 1);
        put(0, -1, -1);
        put(0, -128, -128);
        put(0, -129, 127);
        put(0, -256, 0);
        put(0, MAX, -1);
        put(0, MIN, 0);
        put(0, MOST, -1);
        put(0, LEAST, 0);
    }

    private static void shorts() {
        put(1, 32767, 32767);
        put(1, 32768, -32768);
        put(1, 65535, -1);
        put(1, 65536, 0);
        put(1, -32768, -32768);
        put(1, -32769, 32767);
        put(1, 128, 128);
        put(1, MAX, -1);
        put(1, MIN, 0);
        put(1, MOST, -1);
        put(1, LEAST, 0);
    }

    private static void ints() {
        put(2, MAX, MAX);
        put(2, MAX + 1L, MIN);
        put(2, MIN, MIN);
        put(2, MIN - 1L, MAX);
        put(2, 4294967295L, -1);
        put(2, 4294967296L, 0);
        put(2, 32768, 32768);
        put(2, MOST, -1);
        put(2, LEAST, 0);
    }

    private static void longs() {
        put(3, MOST, MOST);
        put(3, LEAST, LEAST);
        put(3, -1, -1);
        put(3, MAX + 1L, MAX + 1L);
        put(3, MIN - 1L, MIN - 1L);
        put(3, 4294967296L, 4294967296L);
    }

    private static void everySortByItsBits() {
        for (int sort = 0; sort < 4; sort++) {
            int bits = 8 << sort;
            for (int bit = 0; bit < 64; bit++) {
                long due = bit >= bits ? 0 : bit == bits - 1 ? LEAST >> 64 - bits : 1L << bit;
                put(sort, 1L << bit, due);
            }
        }
    }

    private static void copiedAsTheyAre() {
        long[] values = {0x8182838485868788L, -1, LEAST, MOST};
        for (int sort = 0; sort < 4; sort++) {
            SeatsToTheReluctant x = new SeatsToTheReluctant();
            x.row(0, sort, 4);
            x.row(1, sort, 4);
            for (int i = 0; i < 4; i++) {
                x.set(0, i, values[i]);
            }
            T.due("4: copy", x.copy(0, 1, 0, 0, 4), 1);
            for (int i = 0; i < 4; i++) {
                T.due("4: as it was", x.element(1, i), x.element(0, i));
            }
        }
    }

    /** All is read as ints (of longs the lowest 32 bits): letters, tracks and votes. */
    private static void readAsInts() {
        long[] above = {0, 1L << 32, -1L << 32, LEAST, 0x7FFFFFFFL << 32};
        for (long more : above) {
            SeatsToTheReluctant x = new SeatsToTheReluctant();
            x.person(0, 0, 0, 1, 24);
            x.row(0, 3, 1);
            x.set(0, 0, more | 17);
            T.due("26: read as 17", x.fits(0, 0, 1, 0), 1023);
            T.due("32: read as 17", x.judge(0, 1, 1), -1);
            x.set(0, 0, more | 1L << 31 | 17);
            T.due("26: not as 17", x.fits(0, 0, 1, 0), 0);
            T.due("32: not as 17", x.judge(0, 1, 1), 0);
            String text = "scent 7";
            x.row(1, 3, text.length());
            for (int i = 0; i < text.length(); i++) {
                x.set(1, i, more | text.charAt(i));
            }
            T.due("15: read as letters", x.port(1), 1);
            T.due("41: scent", x.status(3), 7);
            x.set(1, 6, more | 1L << 31 | '7');
            T.due("15: no digit", x.port(1), -6);
            T.due("16: its place", x.fault(), 6);
        }
        // What is no letter's number is none by its lowest bits either.
        for (int sort = 1; sort < 4; sort++) {
            SeatsToTheReluctant x = new SeatsToTheReluctant();
            String text = "scent 7";
            x.row(1, sort, text.length());
            for (int i = 0; i < text.length(); i++) {
                x.set(1, i, text.charAt(i) + (i == 2 ? 256 : 0));
            }
            T.due("15: no letter", x.port(1), -6);
            T.due("16: its place", x.fault(), 2);
        }
    }
}
