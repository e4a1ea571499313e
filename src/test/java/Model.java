import java.util.ArrayList;
import java.util.Arrays;
import java.util.List;
import java.util.Set;
import java.util.TreeSet;
import java.util.stream.IntStream;

/**
 * The document told once more, as plainly as the whole of Java allows and with no thought of room or
 * speed: what is ahead is done in truth to a copy, orders are gone through one by one, kinds are classes.
 */
final class Model {
    static final class Refused extends RuntimeException {
        private static final long serialVersionUID = 1L;
        final int number;

        Refused(int number) {
            super(null, null, false, false);
            this.number = number;
        }
    }

    static final class Fault extends RuntimeException {
        private static final long serialVersionUID = 1L;
        final int place;

        Fault(int place) {
            super(null, null, false, false);
            this.place = place;
        }
    }

    // ---- Kinds

    static class Person {
        int m;
        int k;
        int want;
        int speed;
        int at;
        int sat;
        List<Integer> log = new ArrayList<>();

        int kind() {
            return 0;
        }

        boolean flees() {
            return want < 10;
        }

        int smell() {
            return want;
        }

        int pace(int yard) {
            return speed;
        }

        int says() {
            return at;
        }

        int runs(int x) {
            log.add(10);
            return x + m;
        }

        int hides(int x) {
            log.add(11);
            return runs(x) * 2;
        }

        int sits(int x) {
            log.add(12);
            int hidden = hides(x);
            int run = runs(x - k);
            return hidden ^ run;
        }
    }

    static class Coward extends Person {
        @Override int kind() {
            return 1;
        }

        @Override boolean flees() {
            return want - k < 10;
        }

        @Override int runs(int x) {
            log.add(20);
            return super.runs(x) + k;
        }
    }

    static class Lady extends Person {
        @Override int kind() {
            return 2;
        }

        @Override int smell() {
            return want >> 1;
        }

        @Override int pace(int yard) {
            return (int) Math.ceil(speed / 2.0);
        }

        @Override int hides(int x) {
            log.add(30);
            return super.hides(x) * 3;
        }
    }

    static class Pretender extends Coward {
        @Override int kind() {
            return 3;
        }

        @Override int smell() {
            return super.smell() + k;
        }

        @Override int runs(int x) {
            log.add(40);
            return super.runs(x + 1);
        }
    }

    static class Longer extends Person {
        @Override int kind() {
            return 4;
        }

        @Override boolean flees() {
            return false;
        }

        @Override int sits(int x) {
            log.add(50);
            return -super.sits(x);
        }

        @Override int runs(int x) {
            log.add(51);
            return super.runs(x) - m;
        }
    }

    static class Fainter extends Lady {
        @Override int kind() {
            return 5;
        }

        @Override int pace(int yard) {
            return Math.floorMod(yard, k + 2) == 0 ? 0 : super.pace(yard);
        }

        @Override int sits(int x) {
            log.add(60);
            return super.sits(x) ^ 5;
        }
    }

    static class Clerk extends Pretender {
        @Override int kind() {
            return 6;
        }

        @Override int smell() {
            return super.smell() + 3;
        }

        @Override int pace(int yard) {
            return super.pace(yard) + 1;
        }

        @Override int runs(int x) {
            log.add(70);
            return super.runs(x) * 2;
        }

        @Override int hides(int x) {
            log.add(71);
            return super.hides(x - k);
        }
    }

    static Person make(int kind, int m, int a, int want, int speed, int at, int sat) {
        Person[] all = {
            new Person(), new Coward(), new Lady(), new Pretender(), new Longer(), new Fainter(), new Clerk()
        };
        Person p = all[kind];
        p.m = m;
        p.k = a;
        p.want = want;
        p.speed = speed;
        p.at = at;
        p.sat = sat;
        return p;
    }

    static boolean isOf(Person p, int kind) {
        Class<?>[] classes = {
            Person.class, Coward.class, Lady.class, Pretender.class, Longer.class, Fainter.class, Clerk.class
        };
        return classes[kind].isInstance(p);
    }

    static final class Row {
        int sort;
        long[] values;

        int intAt(int i) {
            return (int) values[i];
        }
    }

    // ---- What there is

    private List<Person> people = new ArrayList<>();
    private Set<Integer> fences = new TreeSet<>();
    private int seats = 2;
    private int scent = 20;
    private int yards = 0;
    private int votes = 0;
    private int seed = 1;
    private Object[] shelves = new Object[8];
    private Model image = null;
    private int[] refusals = new int[8];
    private int fault = -1;
    private List<Integer> trace = new ArrayList<>();

    private static List<Person> copyOf(List<Person> from) {
        List<Person> copies = new ArrayList<>();
        for (Person p : from) {
            copies.add(make(p.kind(), p.m, p.k, p.want, p.speed, p.at, p.sat));
        }
        return copies;
    }

    /** A copy of all but shelves. */
    private Model another() {
        Model c = new Model();
        c.takeFrom(this);
        return c;
    }

    private void takeFrom(Model other) {
        people = copyOf(other.people);
        fences = new TreeSet<>(other.fences);
        seats = other.seats;
        scent = other.scent;
        yards = other.yards;
        votes = other.votes;
        seed = other.seed;
    }

    private static void must(boolean is, int number) {
        if (!is) {
            throw new Refused(number);
        }
    }

    int refused(Refused r, int apart) {
        refusals[r.number]++;
        return -apart - r.number;
    }

    private Object shelf(int s) {
        must(s >= 0 && s < 8, 1);
        return shelves[s];
    }

    private Row rowIn(int s) {
        Object o = shelf(s);
        must(!(o instanceof Integer), 2);
        must(o != null, 3);
        return (Row) o;
    }

    private Person one(int person) {
        must(person >= 0 && person < people.size(), 1);
        return people.get(person);
    }

    private static boolean within(int v, int least, int most) {
        return least <= v && v <= most;
    }

    private static boolean square(int v) {
        return within(v, 0, 48);
    }

    private boolean open(int v) {
        return square(v) && !fences.contains(v);
    }

    private boolean somebodyAt(int v) {
        return people.stream().anyMatch(p -> p.at == v);
    }

    // ---- Shelves

    int row(int s, int sort, int n) {
        shelf(s);
        must(n >= 0, 4);
        must(within(sort, 0, 3), 6);
        must(n <= 160, 7);
        Row r = new Row();
        r.sort = sort;
        r.values = new long[n];
        shelves[s] = r;
        return 1;
    }

    int set(int s, int i, long v) {
        Row r = rowIn(s);
        must(within(i, 0, r.values.length - 1), 5);
        int bits = 8 << r.sort;
        r.values[i] = v << 64 - bits >> 64 - bits;
        return 1;
    }

    int copy(int p, int q, int i, int j, int n) {
        Object from = shelf(p);
        Object onto = shelf(q);
        must(!(from instanceof Integer) && !(onto instanceof Integer), 2);
        must(from == null || onto == null || ((Row) from).sort == ((Row) onto).sort, 2);
        must(from != null && onto != null, 3);
        must(n >= 0, 4);
        Row f = (Row) from;
        Row o = (Row) onto;
        must(i >= 0 && j >= 0 && (long) i + n <= f.values.length && (long) j + n <= o.values.length, 5);
        long[] before = f.values.clone();
        for (int e = 0; e < n; e++) {
            o.values[j + e] = before[i + e];
        }
        return 1;
    }

    long element(int s, int i) {
        if (!within(s, 0, 7) || !(shelves[s] instanceof Row)) {
            return 0;
        }
        Row r = (Row) shelves[s];
        return within(i, 0, r.values.length - 1) ? r.values[i] : 0;
    }

    int show(int s, int person) {
        shelf(s);
        if (person == -1) {
            shelves[s] = null;
            return 0;
        }
        one(person);
        shelves[s] = person;
        return 1;
    }

    int holds(int s) {
        if (!within(s, 0, 7) || shelves[s] == null) {
            return -1;
        }
        return shelves[s] instanceof Integer ? (Integer) shelves[s] : 100 + ((Row) shelves[s]).sort;
    }

    int says(int s, int kind) {
        Object o = shelf(s);
        must(within(kind, 0, 6), 1);
        must(!(o instanceof Row), 2);
        must(o != null, 3);
        Person p = people.get((Integer) o);
        must(isOf(p, kind), 2);
        return new int[] {p.at, p.smell(), p.speed, p.smell(), p.want, p.speed, p.smell()}[kind];
    }

    // ---- The port

    int person(int kind, int a, int want, int speed, int at) {
        must(within(kind, 0, 6), 1);
        must(within(a, 0, 9) && within(want, 0, 20) && within(speed, 1, 4) && open(at), 6);
        must(people.size() < 7, 7);
        people.add(make(kind, people.size(), a, want, speed, at, 0));
        return people.size() - 1;
    }

    int fence(int square, boolean is) {
        must(square(square) && square != 24 && !somebodyAt(square), 6);
        return is ? fences.add(square) ? 0 : 1 : fences.remove(square) ? 1 : 0;
    }

    int tell(int person, int what, int v) {
        Person p = one(person);
        must(within(what, 0, 2), 6);
        must(what == 0 ? within(v, 0, 20) : what == 1 ? within(v, 1, 4) : open(v), 6);
        int was = what == 0 ? p.want : what == 1 ? p.speed : p.at;
        p.want = what == 0 ? v : p.want;
        p.speed = what == 1 ? v : p.speed;
        p.at = what == 2 ? v : p.at;
        return was;
    }

    int ask(int what, int v) {
        must(what == 0 && within(v, 1, 4) || what == 1 && within(v, 0, 40), 6);
        int was = what == 0 ? seats : scent;
        seats = what == 0 ? v : seats;
        scent = what == 1 ? v : scent;
        return was;
    }

    int personOf(int person, int what) {
        must(within(person, 0, people.size() - 1) && within(what, 0, 8), 5);
        Person p = people.get(person);
        int out = p.smell() > scent ? 1 : 0;
        return new int[] {p.kind(), p.k, p.want, p.speed, p.at, p.sat, p.smell(), p.flees() ? 1 : 0, out}[what];
    }

    int squareOf(int square, int what) {
        must(square(square) && within(what, 0, 1), 5);
        if (what == 0) {
            return fences.contains(square) ? 1 : 0;
        }
        return people.stream().filter(p -> p.at == square).mapToInt(p -> 1 << p.m).sum();
    }

    // ---- Texts

    int port(int s) {
        Row r = rowIn(s);
        int[] signs = new int[r.values.length];
        for (int i = 0; i < signs.length; i++) {
            signs[i] = r.intAt(i);
        }
        Model told = another();
        try {
            int items = told.read(signs);
            takeFrom(told);
            fault = -1;
            return items;
        } catch (Fault f) {
            fault = f.place;
            throw new Refused(6);
        }
    }

    /** Item by item: the stretch up to the next ; that is none of the item's signs is read at once. */
    private int read(int[] signs) {
        int items = 0;
        int start = 0;
        while (true) {
            int end = start;
            while (end < signs.length && signs[end] != ';') {
                end++;
            }
            readItem(signs, start, end);
            items++;
            if (end == signs.length) {
                return items;
            }
            start = end + 1;
        }
    }

    private void readItem(int[] signs, int start, int end) {
        List<String> words = new ArrayList<>(List.of("fence", "open", "person", "seats", "scent"));
        int place = start;
        String whole = null;
        while (whole == null) {
            int sign = place < end ? signs[place] : -1;
            int i = place - start;
            words.removeIf(w -> w.charAt(i) != sign);
            if (words.isEmpty()) {
                throw new Fault(place);
            }
            place++;
            if (words.get(0).length() == place - start) {
                whole = words.get(0);
            }
        }
        if (whole.equals("person") && people.size() == 7) {
            throw new Fault(start);
        }
        int count = whole.equals("person") ? 5 : 1;
        int[] numbers = new int[count];
        for (int c = 0; c < count; c++) {
            if (place >= end || signs[place] != ' ') {
                throw new Fault(place);
            }
            int first = place + 1;
            place = first;
            String digits = "";
            while (place < end && digits.length() < 2 && "0123456789".indexOf(signs[place]) >= 0) {
                digits += (char) signs[place];
                place++;
            }
            if (digits.isEmpty()) {
                throw new Fault(place);
            }
            numbers[c] = Integer.parseInt(digits);
            if (!may(whole, c, numbers[c])) {
                throw new Fault(first);
            }
        }
        if (place < end) {
            throw new Fault(place);
        }
        tellItem(whole, numbers);
    }

    private boolean may(String word, int c, int v) {
        switch (word) {
            case "fence":
                return square(v) && v != 24 && !somebodyAt(v);
            case "open":
                return square(v);
            case "seats":
                return within(v, 1, 4);
            case "scent":
                return within(v, 0, 40);
            default:
                return new boolean[] {within(v, 0, 6), within(v, 0, 9), within(v, 0, 20), within(v, 1, 4), open(v)}[c];
        }
    }

    private void tellItem(String word, int[] v) {
        switch (word) {
            case "fence":
                fences.add(v[0]);
                break;
            case "open":
                fences.remove(v[0]);
                break;
            case "seats":
                seats = v[0];
                break;
            case "scent":
                scent = v[0];
                break;
            default:
                person(v[0], v[1], v[2], v[3], v[4]);
        }
    }

    int fault() {
        return fault;
    }

    // ---- Running

    private static final int[][] BESIDE = new int[49][];

    static {
        for (int square = 0; square < 49; square++) {
            int s = square;
            BESIDE[s] = IntStream.range(0, 49)
                .filter(o -> Math.abs(o / 7 - s / 7) + Math.abs(o % 7 - s % 7) == 1).toArray();
        }
    }

    /** Fewest steps from a square without fence to each; 99 if there is no way. */
    private int[] fewest(int from) {
        int[] steps = new int[49];
        Arrays.fill(steps, 99);
        steps[from] = 0;
        for (boolean changes = true; changes;) {
            changes = false;
            for (int square = 0; square < 49; square++) {
                for (int next : BESIDE[square]) {
                    if (open(square) && open(next) && steps[square] + 1 < steps[next]) {
                        steps[next] = steps[square] + 1;
                        changes = true;
                    }
                }
            }
        }
        return steps;
    }

    int far(int square) {
        must(square(square), 6);
        return fewest(24)[square];
    }

    private void yard() {
        int[] far = fewest(24);
        for (Person p : people) {
            int paces = p.pace(yards);
            for (int s = 0; s < paces; s++) {
                int to = p.at;
                for (int next : BESIDE[p.at]) {
                    boolean better = p.flees() ? far[next] > far[to] && far[next] < 99 : far[next] < far[to];
                    to = open(next) && better ? next : to;
                }
                p.at = to;
            }
        }
        yards++;
    }

    private Model ahead(int n) {
        Model c = another();
        for (int i = 0; i < n; i++) {
            c.yard();
        }
        return c;
    }

    private List<Person> seated(int but) {
        int[] far = fewest(24);
        List<Person> all = new ArrayList<>(people);
        all.removeIf(p -> p.m == but || p.smell() > scent || far[p.at] == 99);
        all.sort((p, q) -> far[p.at] != far[q.at] ? far[q.at] - far[p.at] : p.m - q.m);
        return all.subList(0, Math.min(seats, all.size()));
    }

    private static int bits(List<Person> all) {
        return all.stream().mapToInt(p -> 1 << p.m).sum();
    }

    int who(int what) {
        must(within(what, 0, 2), 5);
        List<Person> all = new ArrayList<>(people);
        all.removeIf(p -> what == 1 ? p.smell() <= scent : !p.flees());
        return what == 0 ? bits(seated(-1)) : bits(all);
    }

    // ---- What comes of it

    private static void yards(int n) {
        must(within(n, 0, 30), 6);
    }

    int where(int person, int n) {
        one(person);
        yards(n);
        return ahead(n).people.get(person).at;
    }

    int chosen(int n) {
        yards(n);
        return bits(ahead(n).seated(-1));
    }

    private boolean isChosen(int person, int n) {
        return (chosen(n) >> person & 1) == 1;
    }

    int hide(int person, int n) {
        Person p = one(person);
        yards(n);
        int[] far = fewest(24);
        int[] steps = fewest(p.at);
        int best = -1;
        for (int square = 48; square >= 0; square--) {
            if (steps[square] <= n && far[square] < 99 && (best < 0 || far[square] >= far[best])) {
                best = square;
            }
        }
        return best;
    }

    int to(int person, int square) {
        Person p = one(person);
        must(open(square), 6);
        int steps = fewest(p.at)[square];
        return steps == 99 ? -1 : steps;
    }

    int spared(int person, int n) {
        one(person);
        yards(n);
        for (int square = 0; square < 49; square++) {
            if (open(square) && !somebodyAt(square) && square != 24) {
                Model c = another();
                c.fence(square, true);
                if (!c.isChosen(person, n)) {
                    return square;
                }
            }
        }
        return -1;
    }

    int wanting(int person, int n, int what) {
        one(person);
        must(within(what, 0, 1), 5);
        yards(n);
        List<Integer> good = new ArrayList<>();
        for (int want = 0; want <= 20; want++) {
            Model c = another();
            c.tell(person, 0, want);
            if (c.isChosen(person, n)) {
                good.add(want);
            }
        }
        return good.isEmpty() ? -1 : good.get(what == 0 ? 0 : good.size() - 1);
    }

    int without(int person, int n) {
        one(person);
        yards(n);
        return bits(ahead(n).seated(person));
    }

    int fits(int s, int person, int n, int what) {
        shelf(s);
        Person p = one(person);
        Row r = rowIn(s);
        must(n >= 0, 4);
        must(n <= r.values.length && within(what, 0, 1), 5);
        must(n <= 30, 6);
        int bits = 0;
        for (int v = 0; v <= (what == 0 ? 20 : 6); v++) {
            Model c = another();
            int kind = what == 0 ? p.kind() : v;
            c.people.set(person, make(kind, person, p.k, what == 0 ? v : p.want, p.speed, p.at, p.sat));
            boolean fits = true;
            for (int i = 0; i < n && fits; i++) {
                c.yard();
                fits = c.people.get(person).at == r.intAt(i);
            }
            bits |= fits ? 1 << v : 0;
        }
        return bits;
    }

    int tells(int person, int what) {
        one(person);
        must(within(what, 0, 1), 5);
        List<Model> ways = new ArrayList<>();
        for (int want = 0; want <= 20; want++) {
            Model c = another();
            c.tell(person, 0, want);
            ways.add(c);
        }
        int most = 0;
        int least = 0;
        for (int n = 1; n <= 30; n++) {
            Set<Integer> squares = new TreeSet<>();
            for (Model c : ways) {
                c.yard();
                squares.add(c.people.get(person).at);
            }
            if (squares.size() > most) {
                most = squares.size();
                least = n;
            }
        }
        return what == 0 ? least : most;
    }

    private void told(int set) {
        must(set >= 0 && set < 1 << people.size(), 6);
    }

    private int weight(int set) {
        return people.stream().filter(p -> (set >> p.m & 1) == 1).mapToInt(p -> p.k + 1).sum();
    }

    int power(int person, int set) {
        one(person);
        must((set >> person & 1) == 1, 5);
        told(set);
        return orders(person, set, set, 0);
    }

    /** Of all orders that go on so, in how many it is he. */
    private int orders(int person, int all, int left, int weight) {
        int sum = 0;
        for (int next = 0; next < 7; next++) {
            if ((left >> next & 1) == 0) {
                continue;
            }
            int now = weight + people.get(next).k + 1;
            int rest = left & ~(1 << next);
            if (now > weight(all) / 2.0) {
                int ways = 1;
                for (int f = 2; f <= Integer.bitCount(rest); f++) {
                    ways *= f;
                }
                sum += next == person ? ways : 0;
            } else {
                sum += orders(person, all, rest, now);
            }
        }
        return sum;
    }

    int carries(int set) {
        told(set);
        for (int size = 1; size <= 7; size++) {
            for (int part = 0; part < 128; part++) {
                boolean is = Integer.bitCount(part) == size && (part | set) == set;
                if (is && weight(part) > weight(set) / 2.0) {
                    return part;
                }
            }
        }
        return 0;
    }

    int bell(int person) {
        Person he = one(person);
        int best = -1;
        long fewest = 99;
        for (int s = 40; s >= 0; s--) {
            int at = s;
            long out = people.stream().filter(p -> p.smell() > at).count();
            if (he.smell() > s && out <= fewest) {
                best = s;
                fewest = out;
            }
        }
        return best;
    }

    int crowd(int n, int what) {
        must(within(what, 0, 1), 5);
        yards(n);
        Model c = ahead(n);
        int best = -1;
        if (what == 0) {
            int most = 0;
            for (int square = 0; square < 49; square++) {
                int there = Integer.bitCount(c.squareOf(square, 1));
                best = there > most ? square : best;
                most = Math.max(most, there);
            }
            return best;
        }
        c.scent = 99;
        c.seats = 1;
        return c.seated(-1).isEmpty() ? -1 : c.seated(-1).get(0).m;
    }

    int judge(int s, int k, int n) {
        Row r = rowIn(s);
        must(k >= 0, 4);
        must(k <= r.values.length, 5);
        must(within(n, 0, 30) && k <= people.size(), 6);
        for (int i = 0; i < k; i++) {
            if (where(i, n) != r.intAt(i)) {
                return i;
            }
        }
        return -1;
    }

    // ---- In truth

    int run(int n) {
        must(within(n, 1, 30), 6);
        for (int i = 0; i < n; i++) {
            yard();
        }
        return yards;
    }

    int vote() {
        List<Person> all = new ArrayList<>(seated(-1));
        for (Person p : all) {
            p.sat++;
            p.at = 24;
        }
        votes++;
        return bits(all);
    }

    private int draw(int n) {
        seed = seed * 1103515245 + 12345;
        return (seed >> 16 & 0xFFFF) % n;
    }

    int years(int n) {
        must(!people.isEmpty(), 5);
        must(within(n, 1, 40), 6);
        for (int i = 0; i < n; i++) {
            Person p = people.get(draw(people.size()));
            p.want = draw(21);
            run(1 + draw(5));
            vote();
        }
        return votes;
    }

    int seed(int v) {
        int was = seed;
        seed = v;
        return was;
    }

    int act(int person, int move, int x) {
        trace = new ArrayList<>();
        if (!within(person, 0, people.size() - 1) || !within(move, 0, 2)) {
            return 0;
        }
        Person p = people.get(person);
        p.log = trace;
        return move == 0 ? p.runs(x) : move == 1 ? p.hides(x) : p.sits(x);
    }

    int trace(int i) {
        return within(i, 0, Math.min(trace.size(), 20) - 1) ? trace.get(i) : -1;
    }

    int image() {
        image = another();
        return people.size();
    }

    int restore() {
        must(image != null, 6);
        takeFrom(image);
        for (int s = 0; s < 8; s++) {
            if (shelves[s] instanceof Integer && (Integer) shelves[s] >= people.size()) {
                shelves[s] = null;
            }
        }
        return people.size();
    }

    int status(int what) {
        if (within(what, 11, 17)) {
            return refusals[what - 10];
        }
        if (!within(what, 0, 8)) {
            return -1;
        }
        int sat = people.stream().mapToInt(p -> p.sat).sum();
        return new int[] {people.size(), fences.size(), seats, scent, yards, votes, sat, seed, trace.size()}[what];
    }
}
