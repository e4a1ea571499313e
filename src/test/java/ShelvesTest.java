/** Promises 1 to 8: a new object, and what shelves hold. */
public final class ShelvesTest {
    private static final int MIN = Integer.MIN_VALUE;
    private static final int MAX = Integer.MAX_VALUE;
    private static final Due T = new Due("ShelvesTest");

    public static void main(String[] args) {
        newObject();
        row();
        set();
        copy();
        element();
        show();
        holds();
        says();
        T.end();
    }

    private static void newObject() {
        SeatsToTheReluctant x = new SeatsToTheReluctant();
        T.due("NONE", SeatsToTheReluctant.NONE, -1);
        int[] first = {0, 0, 2, 20, 0, 0, 0, 1, 0};
        for (int what = 0; what < first.length; what++) {
            T.due("1: status(" + what + ")", x.status(what), first[what]);
        }
        for (int what = 11; what <= 17; what++) {
            T.due("1: status(" + what + ")", x.status(what), 0);
        }
        for (int square = 0; square < 49; square++) {
            T.due("1: squareOf(" + square + ", 0)", x.squareOf(square, 0), 0);
            T.due("1: squareOf(" + square + ", 1)", x.squareOf(square, 1), 0);
        }
        for (int s = 0; s < 8; s++) {
            T.due("1: holds(" + s + ")", x.holds(s), -1);
        }
        T.due("1: fault()", x.fault(), -1);
        T.due("1: trace(0)", x.trace(0), -1);
        T.due("1: restore()", x.restore(), -6);
    }

    private static void row() {
        SeatsToTheReluctant x = new SeatsToTheReluctant();
        T.due("2: row(0, 0, 0)", x.row(0, 0, 0), 1);
        T.due("2: row(7, 3, 160)", x.row(7, 3, 160), 1);
        T.due("2: set(7, 159, 5)", x.set(7, 159, 5), 1);
        T.due("2: row(7, 3, 160) again", x.row(7, 3, 160), 1);
        T.due("2: a new row is of 0", x.element(7, 159), 0);
        T.due("2: row(-1, 9, -1)", x.row(-1, 9, -1), -1);
        T.due("2: row(8, 0, 1)", x.row(8, 0, 1), -1);
        T.due("2: row(MIN, 0, 1)", x.row(MIN, 0, 1), -1);
        T.due("2: row(0, 9, -1)", x.row(0, 9, -1), -4);
        T.due("2: row(0, 0, MIN)", x.row(0, 0, MIN), -4);
        T.due("2: row(0, 4, 161)", x.row(0, 4, 161), -6);
        T.due("2: row(0, -1, 1)", x.row(0, -1, 1), -6);
        T.due("2: row(0, 3, 161)", x.row(0, 3, 161), -7);
        T.due("2: row(0, 3, MAX)", x.row(0, 3, MAX), -7);
        T.due("2: refused, nothing changes", x.holds(0), 100);
        T.due("2: status(11)", x.status(11), 3);
        T.due("2: status(14)", x.status(14), 2);
        T.due("2: status(16)", x.status(16), 2);
        T.due("2: status(17)", x.status(17), 2);
        x.person(0, 0, 0, 1, 0);
        x.show(1, 0);
        T.due("2: row(1, 1, 2) over a person", x.row(1, 1, 2), 1);
        T.due("2: holds(1)", x.holds(1), 101);
    }

    private static void set() {
        SeatsToTheReluctant x = new SeatsToTheReluctant();
        x.person(0, 0, 0, 1, 0);
        x.show(1, 0);
        for (int sort = 0; sort < 4; sort++) {
            x.row(0, sort, 2);
            T.due("3: set(0, 0, ..)", x.set(0, 0, 0x1234567812345678L), 1);
            T.due("3: set(0, 1, ..)", x.set(0, 1, -1), 1);
            long[] kept = {0x78L, 0x5678L, 0x12345678L, 0x1234567812345678L};
            T.due("3: lowest bits of sort " + sort, x.element(0, 0), kept[sort]);
            T.due("3: -1 of sort " + sort, x.element(0, 1), -1);
        }
        x.row(0, 0, 3);
        x.set(0, 2, 200);
        T.due("3: 200 as a byte", x.element(0, 2), -56);
        x.row(0, 1, 3);
        x.set(0, 2, 40000);
        T.due("3: 40000 as a short", x.element(0, 2), -25536);
        T.due("3: set(8, 0, 1)", x.set(8, 0, 1), -1);
        T.due("3: set(-1, 0, 1)", x.set(-1, 0, 1), -1);
        T.due("3: set(1, 9, 1)", x.set(1, 9, 1), -2);
        T.due("3: set(2, 9, 1)", x.set(2, 9, 1), -3);
        T.due("3: set(0, 3, 1)", x.set(0, 3, 1), -5);
        T.due("3: set(0, -1, 1)", x.set(0, -1, 1), -5);
        T.due("3: set(0, MIN, 1)", x.set(0, MIN, 1), -5);
        T.due("3: set(0, MAX, 1)", x.set(0, MAX, 1), -5);
        T.due("3: status(12)", x.status(12), 1);
        T.due("3: status(13)", x.status(13), 1);
        T.due("3: status(15)", x.status(15), 4);
    }

    private static void copy() {
        SeatsToTheReluctant x = new SeatsToTheReluctant();
        Due.put(x, 0, 1, 2, 3, 4, 5);
        Due.put(x, 1, 10, 20, 30);
        T.due("4: copy(0, 1, 3, 1, 2)", x.copy(0, 1, 3, 1, 2), 1);
        row(x, 1, 10, 4, 5);
        T.due("4: copy(0, 0, 0, 1, 4)", x.copy(0, 0, 0, 1, 4), 1);
        row(x, 0, 1, 1, 2, 3, 4);
        T.due("4: copy(0, 0, 1, 0, 4)", x.copy(0, 0, 1, 0, 4), 1);
        row(x, 0, 1, 2, 3, 4, 4);
        T.due("4: copy(0, 1, 5, 3, 0)", x.copy(0, 1, 5, 3, 0), 1);
        row(x, 1, 10, 4, 5);
        x.row(2, 1, 3);
        x.person(0, 0, 0, 1, 0);
        x.show(3, 0);
        T.due("4: copy(8, 0, 0, 0, 0)", x.copy(8, 0, 0, 0, 0), -1);
        T.due("4: copy(0, -1, 0, 0, 0)", x.copy(0, -1, 0, 0, 0), -1);
        T.due("4: copy(0, 2, 0, 0, -1): two sorts", x.copy(0, 2, 0, 0, -1), -2);
        T.due("4: copy(3, 4, 0, 0, 0)", x.copy(3, 4, 0, 0, 0), -2);
        T.due("4: copy(4, 3, 0, 0, 0)", x.copy(4, 3, 0, 0, 0), -2);
        T.due("4: copy(0, 3, 0, 0, 0)", x.copy(0, 3, 0, 0, 0), -2);
        T.due("4: copy(4, 0, 0, 0, -1)", x.copy(4, 0, 0, 0, -1), -3);
        T.due("4: copy(0, 4, 0, 0, -1)", x.copy(0, 4, 0, 0, -1), -3);
        T.due("4: copy(0, 1, -1, 0, -1)", x.copy(0, 1, -1, 0, -1), -4);
        T.due("4: copy(0, 1, -1, 0, 1)", x.copy(0, 1, -1, 0, 1), -5);
        T.due("4: copy(0, 1, 0, -1, 1)", x.copy(0, 1, 0, -1, 1), -5);
        T.due("4: copy(0, 1, 5, 0, 1)", x.copy(0, 1, 5, 0, 1), -5);
        T.due("4: copy(0, 1, 0, 0, 4)", x.copy(0, 1, 0, 0, 4), -5);
        T.due("4: copy(0, 1, 6, 0, 0)", x.copy(0, 1, 6, 0, 0), -5);
        T.due("4: copy(0, 1, MAX, 0, MAX)", x.copy(0, 1, MAX, 0, MAX), -5);
        T.due("4: copy(0, 1, MIN, MIN, MAX)", x.copy(0, 1, MIN, MIN, MAX), -5);
        row(x, 0, 1, 2, 3, 4, 4);
        row(x, 1, 10, 4, 5);
        T.due("4: status(12)", x.status(12), 4);
        T.due("4: status(13)", x.status(13), 2);
    }

    private static void row(SeatsToTheReluctant x, int s, int... want) {
        for (int i = 0; i < want.length; i++) {
            T.due("element(" + s + ", " + i + ")", x.element(s, i), want[i]);
        }
    }

    private static void element() {
        SeatsToTheReluctant x = new SeatsToTheReluctant();
        x.row(0, 3, 2);
        x.set(0, 1, Long.MIN_VALUE);
        T.due("5: element(0, 1)", x.element(0, 1), Long.MIN_VALUE);
        T.due("5: element(0, 2)", x.element(0, 2), 0);
        T.due("5: element(0, -1)", x.element(0, -1), 0);
        T.due("5: element(-1, 0)", x.element(-1, 0), 0);
        T.due("5: element(8, 0)", x.element(8, 0), 0);
        T.due("5: element(1, 0)", x.element(1, 0), 0);
        x.show(0, -1);
        T.due("5: element(0, 1) of nothing", x.element(0, 1), 0);
        for (int what = 11; what <= 17; what++) {
            T.due("5: nothing is refused, status(" + what + ")", x.status(what), 0);
        }
    }

    private static void show() {
        SeatsToTheReluctant x = new SeatsToTheReluctant();
        x.person(0, 0, 0, 1, 0);
        x.person(0, 0, 0, 1, 1);
        T.due("6: show(0, 1)", x.show(0, 1), 1);
        T.due("6: holds(0)", x.holds(0), 1);
        T.due("6: show(0, 2)", x.show(0, 2), -1);
        T.due("6: show(0, -2)", x.show(0, -2), -1);
        T.due("6: show(8, 0)", x.show(8, 0), -1);
        T.due("6: show(-1, -1)", x.show(-1, -1), -1);
        T.due("6: holds(0) still", x.holds(0), 1);
        T.due("6: show(0, -1)", x.show(0, -1), 0);
        T.due("6: holds(0)", x.holds(0), -1);
        x.row(0, 2, 1);
        T.due("6: show(0, 0) over a row", x.show(0, 0), 1);
        T.due("6: holds(0)", x.holds(0), 0);
        T.due("6: status(11)", x.status(11), 4);
    }

    private static void holds() {
        SeatsToTheReluctant x = new SeatsToTheReluctant();
        for (int sort = 0; sort < 4; sort++) {
            x.row(sort, sort, 1);
            T.due("7: holds(" + sort + ")", x.holds(sort), 100 + sort);
        }
        T.due("7: holds(4)", x.holds(4), -1);
        T.due("7: holds(8)", x.holds(8), -1);
        T.due("7: holds(-1)", x.holds(-1), -1);
        T.due("7: nothing is refused", x.status(11), 0);
    }

    private static void says() {
        SeatsToTheReluctant x = new SeatsToTheReluctant();
        // By kinds: at 10 + kind, want 8, a 5, speed 3.
        int[] smells = {8, 8, 4, 13, 8, 4, 16};
        int[][] under = {
            {0, 1, 2, 3, 4, 5, 6}, {1, 3, 6}, {2, 5}, {3, 6}, {4}, {5}, {6}
        };
        for (int kind = 0; kind < 7; kind++) {
            x.person(kind, 5, 8, 3, 10 + kind);
        }
        for (int person = 0; person < 7; person++) {
            x.show(0, person);
            for (int kind = 0; kind < 7; kind++) {
                boolean is = false;
                for (int k : under[kind]) {
                    is |= k == person;
                }
                int said = -2;
                if (is) {
                    said = kind == 0 ? 10 + person : kind == 2 || kind == 5 ? 3 : kind == 4 ? 8 : smells[person];
                }
                T.due("8: says of a " + person + " for a " + kind, x.says(0, kind), said);
            }
        }
        x.row(1, 0, 1);
        T.due("8: says(8, 0)", x.says(8, 0), -1);
        T.due("8: says(-1, 0)", x.says(-1, 0), -1);
        T.due("8: says(1, 7)", x.says(1, 7), -1);
        T.due("8: says(1, -1)", x.says(1, -1), -1);
        T.due("8: says(1, 0)", x.says(1, 0), -2);
        T.due("8: says(2, 0)", x.says(2, 0), -3);
        T.due("8: status(13)", x.status(13), 1);
    }
}
