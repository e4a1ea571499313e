import java.util.Random;
import java.util.function.LongSupplier;

/** Long runs of calls by a fixed seed, each answer held against the model's. */
public final class ModelTest {
    private static final int RUNS = 700;
    // Nothing is promised behind 512 calls: one asking takes 120 at most, what is asked at the end 83.
    private static final int CALLS = 512 - 120 - 83;
    private static final int[] ODD = {
        Integer.MIN_VALUE, Integer.MAX_VALUE, -2, -1, 7, 8, 30, 31, 49, 99, 160, 161, 1 << 30, Integer.MIN_VALUE + 1
    };

    private final Random random;
    private final Due due;
    private final SeatsToTheReluctant x = new SeatsToTheReluctant();
    private final Model model = new Model();
    private int calls = 0;

    private ModelTest(long seed, Due due) {
        this.random = new Random(seed);
        this.due = due;
    }

    public static void main(String[] args) {
        Due due = new Due("ModelTest");
        for (int run = 0; run < RUNS; run++) {
            new ModelTest(20261118L + run, due).run(run);
        }
        due.end();
    }

    private void run(int run) {
        while (calls < CALLS) {
            ask(run);
        }
        for (int what = -1; what < 19; what++) {
            int w = what;
            hold(run, "status(" + w + ")", x.status(w), () -> model.status(w), 0);
        }
        for (int p = 0; p < 7; p++) {
            for (int what = 0; what < 9; what++) {
                int person = p;
                int w = what;
                hold(run, "personOf(" + p + ", " + w + ")", x.personOf(p, w), () -> model.personOf(person, w), 0);
            }
        }
    }

    private void hold(int run, String call, long got, LongSupplier want, int apart) {
        calls++;
        long answer;
        try {
            answer = want.getAsLong();
        } catch (Model.Refused r) {
            answer = model.refused(r, apart);
        }
        due.due("run " + run + ": " + call, got, answer);
    }

    /** Mostly a number from 0 on below n, sometimes one beside them. */
    private int some(int n) {
        int dice = random.nextInt(60);
        if (dice == 0) {
            return ODD[random.nextInt(ODD.length)];
        }
        if (dice == 1) {
            return n;
        }
        return dice == 2 ? -1 : random.nextInt(n);
    }

    private int somebody() {
        return some(Math.max(1, Math.min(7, model.status(0))));
    }

    private void ask(int run) {
        int group = random.nextInt(10);
        if (group < 2) {
            askShelves(run, random.nextInt(8));
        } else if (group < 5) {
            askPort(run, random.nextInt(13));
        } else if (group < 8) {
            askAhead(run, random.nextInt(14));
        } else {
            askTruth(run, random.nextInt(12));
        }
    }

    private void askShelves(int run, int which) {
        int s = some(8);
        int i = some(12);
        int j = some(12);
        int n = some(9);
        switch (which) {
            case 0: {
                int sort = some(4);
                hold(run, "row", x.row(s, sort, i), () -> model.row(s, sort, i), 0);
                break;
            }
            case 1: {
                long v = random.nextInt(3) == 0 ? random.nextLong() : random.nextInt(49);
                hold(run, "set", x.set(s, i, v), () -> model.set(s, i, v), 0);
                break;
            }
            case 2: {
                int q = some(8);
                hold(run, "copy", x.copy(s, q, i, j, n), () -> model.copy(s, q, i, j, n), 0);
                break;
            }
            case 3:
                hold(run, "element", x.element(s, i), () -> model.element(s, i), 0);
                break;
            case 4: {
                int person = somebody();
                hold(run, "show", x.show(s, person), () -> model.show(s, person), 0);
                break;
            }
            case 5:
                hold(run, "holds", x.holds(s), () -> model.holds(s), 0);
                break;
            case 6: {
                int kind = some(7);
                hold(run, "says", x.says(s, kind), () -> model.says(s, kind), 0);
                break;
            }
            default: {
                // A track of somebody, mostly as it would be.
                int length = random.nextInt(33);
                int person = somebody();
                int sort = random.nextInt(4);
                write(run, s, sort, length, e -> random.nextInt(90) == 0 ? 24 : expected(person, e + 1));
                break;
            }
        }
    }

    private interface Elements {
        long at(int i);
    }

    private int expected(int person, int n) {
        try {
            return model.where(person, n);
        } catch (Model.Refused r) {
            return 0;
        }
    }

    private void write(int run, int s, int sort, int length, Elements elements) {
        hold(run, "row", x.row(s, sort, length), () -> model.row(s, sort, length), 0);
        for (int i = 0; i < length; i++) {
            long v = elements.at(i);
            int e = i;
            hold(run, "set", x.set(s, i, v), () -> model.set(s, e, v), 0);
        }
    }

    private void askPort(int run, int which) {
        int person = somebody();
        int square = some(49);
        switch (which) {
            case 0: {
                int kind = some(7);
                int a = some(10);
                int want = some(21);
                int speed = 1 + random.nextInt(4);
                hold(run, "person", x.person(kind, a, want, speed, square),
                    () -> model.person(kind, a, want, speed, square), 0);
                break;
            }
            case 1:
            case 2:
            case 3: {
                boolean is = which < 3;
                hold(run, "fence", x.fence(square, is), () -> model.fence(square, is), 0);
                break;
            }
            case 4:
            case 5: {
                int what = some(3);
                int v = what == 0 ? some(21) : what == 1 ? some(5) : some(49);
                hold(run, "tell", x.tell(person, what, v), () -> model.tell(person, what, v), 0);
                break;
            }
            case 6: {
                int what = some(2);
                int v = what == 0 ? some(5) : some(41);
                hold(run, "ask", x.ask(what, v), () -> model.ask(what, v), 0);
                break;
            }
            case 7: {
                int what = some(9);
                hold(run, "personOf", x.personOf(person, what), () -> model.personOf(person, what), 0);
                break;
            }
            case 8: {
                int what = some(2);
                hold(run, "squareOf", x.squareOf(square, what), () -> model.squareOf(square, what), 0);
                break;
            }
            case 9:
                hold(run, "far", x.far(square), () -> model.far(square), 0);
                break;
            case 10: {
                int what = some(3);
                hold(run, "who", x.who(what), () -> model.who(what), 0);
                break;
            }
            default: {
                String text = text();
                int s = some(8);
                write(run, s, random.nextInt(4), text.length(), text::charAt);
                hold(run, "port of " + text, x.port(s), () -> model.port(s), 0);
                hold(run, "fault of " + text, x.fault(), () -> model.fault(), 0);
                break;
            }
        }
    }

    private String text() {
        StringBuilder text = new StringBuilder();
        int items = 1 + random.nextInt(6);
        for (int i = 0; i < items; i++) {
            text.append(i == 0 ? "" : ";").append(item());
        }
        int harm = random.nextInt(6);
        if (harm == 0) {
            text.setCharAt(random.nextInt(text.length()), " ;fops0123456789x".charAt(random.nextInt(17)));
        } else if (harm == 1) {
            text.insert(random.nextInt(text.length()), " ;fops0123456789x".charAt(random.nextInt(17)));
        } else if (harm == 2) {
            text.deleteCharAt(random.nextInt(text.length()));
        } else if (harm == 3) {
            text.setLength(random.nextInt(text.length() + 1));
        }
        return text.toString();
    }

    private String item() {
        switch (random.nextInt(7)) {
            case 0:
            case 1:
                return "fence " + number(49);
            case 2:
                return "open " + number(49);
            case 3:
                return "seats " + number(5);
            case 4:
                return "scent " + number(41);
            default:
                return "person " + number(7) + " " + number(10) + " " + number(21) + " " + (1 + random.nextInt(4)) + " "
                    + number(49);
        }
    }

    private String number(int n) {
        int v = random.nextInt(50) == 0 ? n : random.nextInt(n);
        return v < 10 && random.nextInt(9) == 0 ? "0" + v : "" + v;
    }

    private void askAhead(int run, int which) {
        int person = somebody();
        int n = some(31);
        int what = some(2);
        switch (which) {
            case 0:
                hold(run, "where", x.where(person, n), () -> model.where(person, n), 0);
                break;
            case 1:
                hold(run, "chosen", x.chosen(n), () -> model.chosen(n), 0);
                break;
            case 2:
                hold(run, "hide", x.hide(person, n), () -> model.hide(person, n), 10);
                break;
            case 3: {
                int square = some(49);
                hold(run, "to", x.to(person, square), () -> model.to(person, square), 10);
                break;
            }
            case 4:
                if (random.nextInt(4) == 0) {
                    hold(run, "spared", x.spared(person, n % 9), () -> model.spared(person, n % 9), 10);
                }
                break;
            case 5:
                hold(run, "wanting", x.wanting(person, n, what), () -> model.wanting(person, n, what), 10);
                break;
            case 6:
                hold(run, "without", x.without(person, n), () -> model.without(person, n), 0);
                break;
            case 7:
            case 8: {
                int s = some(8);
                hold(run, "fits", x.fits(s, person, n, what), () -> model.fits(s, person, n, what), 0);
                break;
            }
            case 9:
                hold(run, "tells", x.tells(person, what), () -> model.tells(person, what), 0);
                break;
            case 10: {
                int set = some(1 << Math.max(1, Math.min(7, model.status(0))));
                hold(run, "power", x.power(person, set), () -> model.power(person, set), 0);
                hold(run, "carries", x.carries(set), () -> model.carries(set), 0);
                break;
            }
            case 11:
                hold(run, "bell", x.bell(person), () -> model.bell(person), 10);
                break;
            case 12:
                hold(run, "crowd", x.crowd(n, what), () -> model.crowd(n, what), 10);
                break;
            default: {
                int s = some(8);
                int k = some(8);
                hold(run, "judge", x.judge(s, k, n), () -> model.judge(s, k, n), 10);
                break;
            }
        }
    }

    private void askTruth(int run, int which) {
        int v = random.nextInt(5) == 0 ? random.nextInt() : some(31);
        switch (which) {
            case 0:
                hold(run, "run", x.run(v), () -> model.run(v), 0);
                break;
            case 1:
                hold(run, "vote", x.vote(), () -> model.vote(), 0);
                break;
            case 2: {
                int n = some(41);
                hold(run, "years", x.years(n), () -> model.years(n), 0);
                break;
            }
            case 3:
                hold(run, "seed", x.seed(v), () -> model.seed(v), 0);
                break;
            case 4:
            case 5:
            case 6: {
                int person = somebody();
                int move = some(3);
                hold(run, "act", x.act(person, move, v), () -> model.act(person, move, v), 0);
                break;
            }
            case 7:
            case 8: {
                int i = some(9);
                hold(run, "trace", x.trace(i), () -> model.trace(i), 0);
                break;
            }
            case 9:
                hold(run, "image", x.image(), () -> model.image(), 0);
                break;
            case 10:
                hold(run, "restore", x.restore(), () -> model.restore(), 0);
                break;
            default: {
                int what = some(19);
                hold(run, "status", x.status(what), () -> model.status(what), 0);
                break;
            }
        }
    }
}
