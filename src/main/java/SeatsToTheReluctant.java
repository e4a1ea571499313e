import java.util.Arrays;

/** A port in squares about a lamp, in which seats go to those who don't want them. */
public final class SeatsToTheReluctant {
    public static final int NONE = -1;

    // The REFUSALS, by what each is counted as.
    private static final int NOBODY = 1;
    private static final int OTHER = 2;
    private static final int NOTHING = 3;
    private static final int BELOW = 4;
    private static final int BEYOND = 5;
    private static final int WRONG = 6;
    private static final int ROOM = 7;

    // Where NONE is an answer too, the refusals stand this much further below 0.
    private static final int APART = 10;

    private static final int PEOPLE = 7;
    private static final int SIDE = 7;
    private static final int SQUARES = 49;
    private static final int LAMP = 24;
    private static final int NO_WAY = 99;
    private static final int MOST_A = 9;
    private static final int MOST_WANT = 20;
    private static final int MOST_SPEED = 4;
    private static final int MOST_SEATS = 4;
    private static final int MOST_SCENT = 40;
    private static final int MOST_YARDS = 30;
    private static final int MOST_YEARS = 40;
    private static final int SHELVES = 8;
    private static final int SORTS = 4;
    private static final int LONGEST_ROW = 160;

    private final Port port = new Port();
    private final Port trial = new Port();
    private final Port image = new Port();
    private final Shelf[] shelves = new Shelf[SHELVES];
    private final int[] refusals = new int[ROOM + 1];
    private final Ways ways = new Ways();
    private final Future future = new Future();
    private final Reader reader = new Reader();
    private final Deeds deeds = new Deeds();
    private boolean imaged = false;
    private int latestFault = NONE;

    public SeatsToTheReluctant() {
        for (int s = 0; s < SHELVES; s++) {
            shelves[s] = new Shelf();
        }
    }

    // ---- SHELVES

    public int row(int s, int sort, int n) {
        if (!isShelf(s)) {
            return refuse(NOBODY);
        }
        if (n < 0) {
            return refuse(BELOW);
        }
        if (sort < 0 || sort >= SORTS) {
            return refuse(WRONG);
        }
        if (n > LONGEST_ROW) {
            return refuse(ROOM);
        }
        shelves[s].putRow(sort, n);
        return 1;
    }

    public int set(int s, int i, long v) {
        int refusal = whyNoRow(s);
        if (refusal != 0) {
            return refuse(refusal);
        }
        if (!shelves[s].hasElement(i)) {
            return refuse(BEYOND);
        }
        shelves[s].putElement(i, v);
        return 1;
    }

    public int copy(int p, int q, int i, int j, int n) {
        if (!isShelf(p) || !isShelf(q)) {
            return refuse(NOBODY);
        }
        Shelf from = shelves[p];
        Shelf onto = shelves[q];
        if (from.hasPerson() || onto.hasPerson() || areOfTwoSorts(from, onto)) {
            return refuse(OTHER);
        }
        if (!from.hasRow() || !onto.hasRow()) {
            return refuse(NOTHING);
        }
        if (n < 0) {
            return refuse(BELOW);
        }
        if (!from.hasStretch(i, n) || !onto.hasStretch(j, n)) {
            return refuse(BEYOND);
        }
        System.arraycopy(from.values, i, onto.values, j, n);
        return 1;
    }

    public long element(int s, int i) {
        return isShelf(s) ? shelves[s].elementAt(i) : 0L;
    }

    public int show(int s, int person) {
        if (!isShelf(s) || (person != NONE && !port.isPerson(person))) {
            return refuse(NOBODY);
        }
        shelves[s].putPerson(person);
        return person == NONE ? 0 : 1;
    }

    public int holds(int s) {
        return isShelf(s) ? shelves[s].held : NONE;
    }

    public int says(int s, int kind) {
        if (!isShelf(s) || !Kind.isKind(kind)) {
            return refuse(NOBODY);
        }
        Shelf shelf = shelves[s];
        if (shelf.hasRow()) {
            return refuse(OTHER);
        }
        if (!shelf.hasPerson() || !port.isPerson(shelf.held)) {
            return refuse(NOTHING);
        }
        if (!Kind.isUnder(port.kind[shelf.held], kind)) {
            return refuse(OTHER);
        }
        return sayingOf(shelf.held, kind);
    }

    private int sayingOf(int person, int kind) {
        switch (kind) {
            case Kind.PERSON:
                return port.at[person];
            case Kind.LADY:
            case Kind.FAINTER:
                return port.speed[person];
            case Kind.LONGER:
                return port.want[person];
            default:
                return port.smellOf(person);
        }
    }

    // ---- THE PORT

    public int person(int kind, int a, int want, int speed, int at) {
        if (!Kind.isKind(kind)) {
            return refuse(NOBODY);
        }
        if (!isBetween(a, 0, MOST_A) || !isBetween(want, 0, MOST_WANT) || !isBetween(speed, 1, MOST_SPEED)
                || !port.isOpen(at)) {
            return refuse(WRONG);
        }
        if (!port.hasRoom()) {
            return refuse(ROOM);
        }
        return port.addPerson(kind, a, want, speed, at);
    }

    public int fence(int square, boolean is) {
        if (!port.mayBeFenced(square)) {
            return refuse(WRONG);
        }
        int was = port.isFenced(square) ? 1 : 0;
        port.putFence(square, is);
        return was;
    }

    public int tell(int person, int what, int v) {
        if (!port.isPerson(person)) {
            return refuse(NOBODY);
        }
        if (what == 0 && isBetween(v, 0, MOST_WANT)) {
            return exchange(port.want, person, v);
        }
        if (what == 1 && isBetween(v, 1, MOST_SPEED)) {
            return exchange(port.speed, person, v);
        }
        if (what == 2 && port.isOpen(v)) {
            return exchange(port.at, person, v);
        }
        return refuse(WRONG);
    }

    private static int exchange(int[] values, int i, int v) {
        int was = values[i];
        values[i] = v;
        return was;
    }

    public int ask(int what, int v) {
        if (what == 0 && isBetween(v, 1, MOST_SEATS)) {
            int was = port.seats;
            port.seats = v;
            return was;
        }
        if (what == 1 && isBetween(v, 0, MOST_SCENT)) {
            int was = port.scent;
            port.scent = v;
            return was;
        }
        return refuse(WRONG);
    }

    public int personOf(int person, int what) {
        if (!port.isPerson(person)) {
            return refuse(BEYOND);
        }
        switch (what) {
            case 0:
                return port.kind[person];
            case 1:
                return port.a[person];
            case 2:
                return port.want[person];
            case 3:
                return port.speed[person];
            case 4:
                return port.at[person];
            case 5:
                return port.sat[person];
            case 6:
                return port.smellOf(person);
            case 7:
                return port.isFleeing(person) ? 1 : 0;
            case 8:
                return port.isPutOut(person) ? 1 : 0;
            default:
                return refuse(BEYOND);
        }
    }

    public int squareOf(int square, int what) {
        if (!isSquare(square)) {
            return refuse(BEYOND);
        }
        switch (what) {
            case 0:
                return port.isFenced(square) ? 1 : 0;
            case 1:
                return port.peopleAt(square);
            default:
                return refuse(BEYOND);
        }
    }

    public int port(int s) {
        int refusal = whyNoRow(s);
        if (refusal != 0) {
            return refuse(refusal);
        }
        trial.takeFrom(port);
        int items = reader.read(shelves[s], trial);
        latestFault = reader.fault;
        if (latestFault != NONE) {
            return refuse(WRONG);
        }
        port.takeFrom(trial);
        return items;
    }

    public int fault() {
        return latestFault;
    }

    public int far(int square) {
        if (!isSquare(square)) {
            return refuse(WRONG);
        }
        ways.chart(port.fences);
        return ways.far[square];
    }

    public int who(int what) {
        switch (what) {
            case 0:
                lookAhead(0);
                return future.elect(port, ways, 0);
            case 1:
                return port.smellingAbove(port.scent);
            case 2:
                return port.fleeing();
            default:
                return refuse(BEYOND);
        }
    }

    // ---- WHAT COMES OF IT

    public int where(int person, int n) {
        if (!port.isPerson(person)) {
            return refuse(NOBODY);
        }
        if (!isAhead(n)) {
            return refuse(WRONG);
        }
        lookAhead(n);
        return future.at[person];
    }

    public int chosen(int n) {
        if (!isAhead(n)) {
            return refuse(WRONG);
        }
        lookAhead(n);
        return future.elect(port, ways, 0);
    }

    public int hide(int person, int n) {
        if (!port.isPerson(person)) {
            return refuseApart(NOBODY);
        }
        if (!isAhead(n)) {
            return refuseApart(WRONG);
        }
        ways.chart(port.fences);
        ways.spread(port.fences, port.at[person], ways.steps);
        int best = NONE;
        for (int square = 0; square < SQUARES; square++) {
            boolean hides = ways.steps[square] <= n && ways.far[square] != NO_WAY;
            if (hides && (best == NONE || ways.far[square] > ways.far[best])) {
                best = square;
            }
        }
        return best;
    }

    public int to(int person, int square) {
        if (!port.isPerson(person)) {
            return refuseApart(NOBODY);
        }
        if (!port.isOpen(square)) {
            return refuseApart(WRONG);
        }
        ways.spread(port.fences, port.at[person], ways.steps);
        return ways.steps[square] == NO_WAY ? NONE : ways.steps[square];
    }

    public int spared(int person, int n) {
        if (!port.isPerson(person)) {
            return refuseApart(NOBODY);
        }
        if (!isAhead(n)) {
            return refuseApart(WRONG);
        }
        for (int square = 0; square < SQUARES; square++) {
            if (port.isFenced(square) || !port.mayBeFenced(square)) {
                continue;
            }
            ways.chart(port.fences | 1L << square);
            future.look(port, ways, n);
            if (!isIn(future.elect(port, ways, 0), person)) {
                return square;
            }
        }
        return NONE;
    }

    public int wanting(int person, int n, int what) {
        if (!port.isPerson(person)) {
            return refuseApart(NOBODY);
        }
        if (what != 0 && what != 1) {
            return refuseApart(BEYOND);
        }
        if (!isAhead(n)) {
            return refuseApart(WRONG);
        }
        ways.chart(port.fences);
        trial.takeFrom(port);
        int found = NONE;
        for (int want = 0; want <= MOST_WANT; want++) {
            trial.want[person] = want;
            future.look(trial, ways, n);
            boolean seated = isIn(future.elect(trial, ways, 0), person);
            if (seated && (found == NONE || what == 1)) {
                found = want;
            }
        }
        return found;
    }

    public int without(int person, int n) {
        if (!port.isPerson(person)) {
            return refuse(NOBODY);
        }
        if (!isAhead(n)) {
            return refuse(WRONG);
        }
        lookAhead(n);
        return future.elect(port, ways, 1 << person);
    }

    public int fits(int s, int person, int n, int what) {
        if (!isShelf(s) || !port.isPerson(person)) {
            return refuse(NOBODY);
        }
        int refusal = whyNoRow(s);
        if (refusal != 0) {
            return refuse(refusal);
        }
        if (n < 0) {
            return refuse(BELOW);
        }
        if (n > shelves[s].length || (what != 0 && what != 1)) {
            return refuse(BEYOND);
        }
        if (n > MOST_YARDS) {
            return refuse(WRONG);
        }
        ways.chart(port.fences);
        return what == 0 ? wantsThatFit(shelves[s], person, n) : kindsThatFit(shelves[s], person, n);
    }

    private int wantsThatFit(Shelf row, int person, int n) {
        trial.takeFrom(port);
        int bits = 0;
        for (int want = 0; want <= MOST_WANT; want++) {
            trial.want[person] = want;
            bits |= isTrack(row, person, n) ? 1 << want : 0;
        }
        return bits;
    }

    private int kindsThatFit(Shelf row, int person, int n) {
        trial.takeFrom(port);
        int bits = 0;
        for (int kind = 0; kind < Kind.COUNT; kind++) {
            trial.kind[person] = kind;
            bits |= isTrack(row, person, n) ? 1 << kind : 0;
        }
        return bits;
    }

    /** Whether one comes in the trial by yard after yard to what the row's first n elements tell. */
    private boolean isTrack(Shelf row, int person, int n) {
        int at = trial.at[person];
        for (int i = 0; i < n; i++) {
            at = trial.afterYard(ways, person, at, trial.yards + i);
            if (row.intAt(i) != at) {
                return false;
            }
        }
        return true;
    }

    public int tells(int person, int what) {
        if (!port.isPerson(person)) {
            return refuse(NOBODY);
        }
        if (what != 0 && what != 1) {
            return refuse(BEYOND);
        }
        ways.chart(port.fences);
        trial.takeFrom(port);
        future.trackWants(trial, ways, person);
        int yards = future.yardsOfMostTracks();
        return what == 0 ? yards : Long.bitCount(future.reached[yards]);
    }

    public int power(int person, int set) {
        if (!port.isPerson(person)) {
            return refuse(NOBODY);
        }
        if (!isIn(set, person)) {
            return refuse(BEYOND);
        }
        if (!port.areAllThere(set)) {
            return refuse(WRONG);
        }
        return Council.pivots(port, person, set);
    }

    public int carries(int set) {
        if (!port.areAllThere(set)) {
            return refuse(WRONG);
        }
        return Council.leastCarrying(port, set);
    }

    public int bell(int person) {
        if (!port.isPerson(person)) {
            return refuseApart(NOBODY);
        }
        int best = NONE;
        int fewest = PEOPLE + 1;
        for (int scent = 0; scent <= MOST_SCENT; scent++) {
            int out = port.smellingAbove(scent);
            if (isIn(out, person) && Integer.bitCount(out) < fewest) {
                best = scent;
                fewest = Integer.bitCount(out);
            }
        }
        return best;
    }

    public int crowd(int n, int what) {
        if (what != 0 && what != 1) {
            return refuseApart(BEYOND);
        }
        if (!isAhead(n)) {
            return refuseApart(WRONG);
        }
        lookAhead(n);
        return what == 0 ? future.crowdedSquare(port) : future.furthest(port, ways, 0);
    }

    public int judge(int s, int k, int n) {
        int refusal = whyNoRow(s);
        if (refusal != 0) {
            return refuseApart(refusal);
        }
        if (k < 0) {
            return refuseApart(BELOW);
        }
        if (k > shelves[s].length) {
            return refuseApart(BEYOND);
        }
        if (!isAhead(n) || k > port.count) {
            return refuseApart(WRONG);
        }
        lookAhead(n);
        for (int i = 0; i < k; i++) {
            if (shelves[s].intAt(i) != future.at[i]) {
                return i;
            }
        }
        return NONE;
    }

    private void lookAhead(int n) {
        ways.chart(port.fences);
        future.look(port, ways, n);
    }

    // ---- IN TRUTH

    public int run(int n) {
        if (!isBetween(n, 1, MOST_YARDS)) {
            return refuse(WRONG);
        }
        ways.chart(port.fences);
        passYards(n);
        return port.yards;
    }

    public int vote() {
        ways.chart(port.fences);
        return holdVote();
    }

    public int years(int n) {
        if (port.count == 0) {
            return refuse(BEYOND);
        }
        if (!isBetween(n, 1, MOST_YEARS)) {
            return refuse(WRONG);
        }
        ways.chart(port.fences);
        for (int year = 0; year < n; year++) {
            int person = port.drawBelow(port.count);
            port.want[person] = port.drawBelow(MOST_WANT + 1);
            passYards(port.drawBelow(5) + 1);
            holdVote();
        }
        return port.votes;
    }

    private void passYards(int n) {
        future.look(port, ways, n);
        for (int person = 0; person < port.count; person++) {
            port.at[person] = future.at[person];
        }
        port.yards += n;
    }

    private int holdVote() {
        future.look(port, ways, 0);
        int seated = future.elect(port, ways, 0);
        for (int person = 0; person < port.count; person++) {
            if (isIn(seated, person)) {
                port.sat[person]++;
                port.at[person] = LAMP;
            }
        }
        port.votes++;
        return seated;
    }

    public int seed(int v) {
        int was = port.seed;
        port.seed = v;
        return was;
    }

    public int act(int person, int move, int x) {
        deeds.forget();
        if (!port.isPerson(person) || !isBetween(move, 0, Deeds.MOVES - 1)) {
            return 0;
        }
        return deeds.perform(port, person, move, x);
    }

    public int trace(int i) {
        return deeds.bodyAt(i);
    }

    public int image() {
        image.takeFrom(port);
        imaged = true;
        return port.count;
    }

    public int restore() {
        if (!imaged) {
            return refuse(WRONG);
        }
        port.takeFrom(image);
        for (int s = 0; s < SHELVES; s++) {
            if (shelves[s].hasPerson() && !port.isPerson(shelves[s].held)) {
                shelves[s].putPerson(NONE);
            }
        }
        return port.count;
    }

    public int status(int what) {
        if (isBetween(what, APART + NOBODY, APART + ROOM)) {
            return refusals[what - APART];
        }
        switch (what) {
            case 0:
                return port.count;
            case 1:
                return Long.bitCount(port.fences);
            case 2:
                return port.seats;
            case 3:
                return port.scent;
            case 4:
                return port.yards;
            case 5:
                return port.votes;
            case 6:
                return port.satTogether();
            case 7:
                return port.seed;
            case 8:
                return deeds.ran;
            default:
                return NONE;
        }
    }

    // ---- What the calls ask first

    private int refuse(int refusal) {
        refusals[refusal]++;
        return -refusal;
    }

    private int refuseApart(int refusal) {
        refusals[refusal]++;
        return -APART - refusal;
    }

    /** Why no row can be taken from a shelf; 0 if there is one. */
    private int whyNoRow(int s) {
        if (!isShelf(s)) {
            return NOBODY;
        }
        if (shelves[s].hasPerson()) {
            return OTHER;
        }
        return shelves[s].hasRow() ? 0 : NOTHING;
    }

    private static boolean areOfTwoSorts(Shelf one, Shelf other) {
        return one.hasRow() && other.hasRow() && one.held != other.held;
    }

    private static boolean isShelf(int s) {
        return isBetween(s, 0, SHELVES - 1);
    }

    private static boolean isSquare(int square) {
        return square >= 0 && square < SQUARES;
    }

    private static boolean isAhead(int n) {
        return isBetween(n, 0, MOST_YARDS);
    }

    private static boolean isBetween(int v, int least, int most) {
        return v >= least && v <= most;
    }

    private static boolean isIn(int bits, int person) {
        return (bits >>> person & 1) != 0;
    }

    /** The kinds, by number: what being of one makes of somebody. */
    private static final class Kind {
        static final int PERSON = 0;
        static final int COWARD = 1;
        static final int LADY = 2;
        static final int PRETENDER = 3;
        static final int LONGER = 4;
        static final int FAINTER = 5;
        static final int CLERK = 6;
        static final int COUNT = 7;

        private static final int[] ABOVE = {NONE, PERSON, PERSON, COWARD, PERSON, LADY, PRETENDER};

        static boolean isKind(int kind) {
            return isBetween(kind, 0, COUNT - 1);
        }

        static int nextAbove(int kind) {
            return isKind(kind) ? ABOVE[kind] : NONE;
        }

        /** Whether a kind is another, or stands under it. */
        static boolean isUnder(int kind, int other) {
            int above = kind;
            for (int level = 0; level < COUNT && above != NONE; level++) {
                if (above == other) {
                    return true;
                }
                above = nextAbove(above);
            }
            return false;
        }

        static boolean isFleeing(int kind, int a, int want) {
            switch (kind) {
                case COWARD:
                case PRETENDER:
                case CLERK:
                    return want < 10 + a;
                case LONGER:
                    return false;
                default:
                    return want < 10;
            }
        }

        static int smell(int kind, int a, int want) {
            switch (kind) {
                case LADY:
                case FAINTER:
                    return want / 2;
                case PRETENDER:
                    return want + a;
                case CLERK:
                    return want + a + 3;
                default:
                    return want;
            }
        }

        /** How many steps in the yard of a number, which a fainter minds. */
        static int pace(int kind, int a, int speed, int yard) {
            switch (kind) {
                case LADY:
                    return (speed + 1) / 2;
                case FAINTER:
                    return yard % (a + 2) == 0 ? 0 : (speed + 1) / 2;
                case CLERK:
                    return speed + 1;
                default:
                    return speed;
            }
        }
    }

    /** All that an image keeps: the squares' fences, the people, and what is asked of them. */
    private static final class Port {
        private final int[] kind = new int[PEOPLE];
        private final int[] a = new int[PEOPLE];
        private final int[] want = new int[PEOPLE];
        private final int[] speed = new int[PEOPLE];
        private final int[] at = new int[PEOPLE];
        private final int[] sat = new int[PEOPLE];
        private int count = 0;
        private long fences = 0L;
        private int seats = 2;
        private int scent = 20;
        private int yards = 0;
        private int votes = 0;
        private int seed = 1;

        void takeFrom(Port other) {
            System.arraycopy(other.kind, 0, kind, 0, PEOPLE);
            System.arraycopy(other.a, 0, a, 0, PEOPLE);
            System.arraycopy(other.want, 0, want, 0, PEOPLE);
            System.arraycopy(other.speed, 0, speed, 0, PEOPLE);
            System.arraycopy(other.at, 0, at, 0, PEOPLE);
            System.arraycopy(other.sat, 0, sat, 0, PEOPLE);
            count = other.count;
            fences = other.fences;
            seats = other.seats;
            scent = other.scent;
            yards = other.yards;
            votes = other.votes;
            seed = other.seed;
        }

        boolean isPerson(int person) {
            return person >= 0 && person < count;
        }

        boolean hasRoom() {
            return count < PEOPLE;
        }

        boolean areAllThere(int bits) {
            return bits >>> count == 0;
        }

        int addPerson(int itsKind, int itsA, int itsWant, int itsSpeed, int itsAt) {
            if (!hasRoom()) {
                return NONE;
            }
            int person = count;
            kind[person] = itsKind;
            a[person] = itsA;
            want[person] = itsWant;
            speed[person] = itsSpeed;
            at[person] = itsAt;
            sat[person] = 0;
            count++;
            return person;
        }

        boolean isFenced(int square) {
            return isSquare(square) && (fences >>> square & 1L) != 0L;
        }

        boolean isOpen(int square) {
            return isSquare(square) && !isFenced(square);
        }

        boolean mayBeFenced(int square) {
            return isSquare(square) && square != LAMP && peopleAt(square) == 0;
        }

        void putFence(int square, boolean is) {
            fences = is ? fences | 1L << square : fences & ~(1L << square);
        }

        int peopleAt(int square) {
            int bits = 0;
            for (int person = 0; person < count; person++) {
                bits |= at[person] == square ? 1 << person : 0;
            }
            return bits;
        }

        int smellOf(int person) {
            return Kind.smell(kind[person], a[person], want[person]);
        }

        boolean isFleeing(int person) {
            return Kind.isFleeing(kind[person], a[person], want[person]);
        }

        boolean isPutOut(int person) {
            return smellOf(person) > scent;
        }

        int fleeing() {
            int bits = 0;
            for (int person = 0; person < count; person++) {
                bits |= isFleeing(person) ? 1 << person : 0;
            }
            return bits;
        }

        int smellingAbove(int limit) {
            int bits = 0;
            for (int person = 0; person < count; person++) {
                bits |= smellOf(person) > limit ? 1 << person : 0;
            }
            return bits;
        }

        /** Where one comes from a square in the yard of a number. */
        int afterYard(Ways ways, int person, int from, int yard) {
            int steps = Kind.pace(kind[person], a[person], speed[person], yard);
            return ways.walk(from, isFleeing(person), steps);
        }

        int satTogether() {
            int sum = 0;
            for (int person = 0; person < count; person++) {
                sum += sat[person];
            }
            return sum;
        }

        int drawBelow(int n) {
            seed = seed * 1103515245 + 12345;
            return n > 0 ? (seed >>> 16) % n : 0;
        }
    }

    /** The ways through the squares that no fence bars. */
    private static final class Ways {
        private static final int SIDES = 4;

        private final int[] far = new int[SQUARES];
        private final int[] away = new int[SQUARES];
        private final int[] toward = new int[SQUARES];
        private final int[] steps = new int[SQUARES];
        private final int[] queue = new int[SQUARES];

        /** Puts how far each square is, and whither a step from it leads. */
        void chart(long fences) {
            spread(fences, LAMP, far);
            for (int square = 0; square < SQUARES; square++) {
                away[square] = stepAway(square);
                toward[square] = stepToward(square);
            }
        }

        /** Puts the fewest steps from one square to each, NO_WAY where no way leads. */
        void spread(long fences, int from, int[] fewest) {
            Arrays.fill(fewest, NO_WAY);
            fewest[from] = 0;
            queue[0] = from;
            int end = 1;
            for (int head = 0; head < end && head < SQUARES; head++) {
                int square = queue[head];
                for (int side = 0; side < SIDES; side++) {
                    int next = beside(square, side);
                    boolean isNew = next != NONE && (fences >>> next & 1L) == 0L && fewest[next] == NO_WAY;
                    if (isNew && end < SQUARES) {
                        fewest[next] = fewest[square] + 1;
                        queue[end] = next;
                        end++;
                    }
                }
            }
        }

        // The sides are tried by rising numbers of squares, so the first best is the least.
        private int stepAway(int square) {
            int best = square;
            for (int side = 0; side < SIDES; side++) {
                int next = beside(square, side);
                if (next != NONE && far[next] != NO_WAY && far[next] > far[best]) {
                    best = next;
                }
            }
            return best;
        }

        private int stepToward(int square) {
            int best = square;
            for (int side = 0; side < SIDES; side++) {
                int next = beside(square, side);
                if (next != NONE && far[next] < far[best]) {
                    best = next;
                }
            }
            return best;
        }

        private static int beside(int square, int side) {
            switch (side) {
                case 0:
                    return square >= SIDE ? square - SIDE : NONE;
                case 1:
                    return square % SIDE > 0 ? square - 1 : NONE;
                case 2:
                    return square % SIDE < SIDE - 1 ? square + 1 : NONE;
                case 3:
                    return square < SQUARES - SIDE ? square + SIDE : NONE;
                default:
                    return NONE;
            }
        }

        int walk(int from, boolean flees, int paces) {
            int square = from;
            for (int pace = 0; pace < paces; pace++) {
                square = flees ? away[square] : toward[square];
            }
            return square;
        }
    }

    /** Where the people are behind some yards, and what comes of it. */
    private static final class Future {
        private final int[] at = new int[PEOPLE];
        // Behind how many yards: the squares, as bits, to which some want has led.
        private final long[] reached = new long[MOST_YARDS + 1];

        void look(Port port, Ways ways, int yards) {
            for (int person = 0; person < port.count; person++) {
                at[person] = port.at[person];
                for (int yard = 0; yard < yards; yard++) {
                    at[person] = port.afterYard(ways, person, at[person], port.yards + yard);
                }
            }
        }

        /** Who is chosen, as if those barred were not there. */
        int elect(Port port, Ways ways, int barred) {
            int out = barred | port.smellingAbove(port.scent);
            int seated = 0;
            for (int seat = 0; seat < port.seats; seat++) {
                int person = furthest(port, ways, out | seated);
                if (person != NONE) {
                    seated |= 1 << person;
                }
            }
            return seated;
        }

        int furthest(Port port, Ways ways, int barred) {
            int best = NONE;
            int most = NONE;
            for (int person = 0; person < port.count; person++) {
                int far = ways.far[at[person]];
                if (!isIn(barred, person) && far != NO_WAY && far > most) {
                    best = person;
                    most = far;
                }
            }
            return best;
        }

        int crowdedSquare(Port port) {
            int best = NONE;
            int most = 0;
            for (int square = 0; square < SQUARES; square++) {
                int there = 0;
                for (int person = 0; person < port.count; person++) {
                    there += at[person] == square ? 1 : 0;
                }
                if (there > most) {
                    best = square;
                    most = there;
                }
            }
            return best;
        }

        /** Puts the squares reached by every want of one; the trial's want is left changed. */
        void trackWants(Port trial, Ways ways, int person) {
            Arrays.fill(reached, 0L);
            for (int want = 0; want <= MOST_WANT; want++) {
                trial.want[person] = want;
                int square = trial.at[person];
                for (int yards = 1; yards <= MOST_YARDS; yards++) {
                    square = trial.afterYard(ways, person, square, trial.yards + yards - 1);
                    reached[yards] |= 1L << square;
                }
            }
        }

        int yardsOfMostTracks() {
            int best = 1;
            for (int yards = 2; yards <= MOST_YARDS; yards++) {
                if (Long.bitCount(reached[yards]) > Long.bitCount(reached[best])) {
                    best = yards;
                }
            }
            return best;
        }
    }

    /** Whose voices weigh how much. */
    private static final class Council {
        private static final int[] ORDERS = {1, 1, 2, 6, 24, 120, 720};

        static int weightOf(Port port, int bits) {
            int weight = 0;
            for (int person = 0; person < port.count; person++) {
                weight += isIn(bits, person) ? port.a[person] + 1 : 0;
            }
            return weight;
        }

        static boolean isCarrying(Port port, int part, int all) {
            return 2 * weightOf(port, part) > weightOf(port, all);
        }

        /** In how many orders one is the pivot: those ahead of him, and those behind, in any order each. */
        static int pivots(Port port, int person, int all) {
            int one = 1 << person;
            int rest = all & ~one;
            int sum = 0;
            for (int ahead = 0; ahead < 1 << port.count; ahead++) {
                boolean isPart = (ahead & ~rest) == 0;
                if (isPart && !isCarrying(port, ahead, all) && isCarrying(port, ahead | one, all)) {
                    sum += ordersOf(ahead) * ordersOf(rest & ~ahead);
                }
            }
            return sum;
        }

        private static int ordersOf(int bits) {
            int size = Integer.bitCount(bits);
            return size < ORDERS.length ? ORDERS[size] : 0;
        }

        static int leastCarrying(Port port, int all) {
            int best = 0;
            for (int part = 1; part < 1 << port.count; part++) {
                boolean isPart = (part & ~all) == 0;
                boolean isLess = best == 0 || Integer.bitCount(part) < Integer.bitCount(best);
                if (isPart && isLess && isCarrying(port, part, all)) {
                    best = part;
                }
            }
            return best;
        }
    }

    /** Nothing, one of the people, or a row, whose elements are kept as longs whatever its sort. */
    private static final class Shelf {
        // From here on what is held is a row of the sort that is left.
        private static final int ROWS = 100;

        private final long[] values = new long[LONGEST_ROW];
        private int held = NONE;
        private int length = 0;

        boolean hasRow() {
            return held >= ROWS;
        }

        boolean hasPerson() {
            return held >= 0 && held < ROWS;
        }

        void putRow(int sort, int n) {
            held = ROWS + sort;
            length = n;
            Arrays.fill(values, 0L);
        }

        void putPerson(int person) {
            held = person;
            length = 0;
        }

        boolean hasElement(int i) {
            return hasRow() && i >= 0 && i < length;
        }

        boolean hasStretch(int i, int n) {
            return i >= 0 && n >= 0 && i <= length - n;
        }

        void putElement(int i, long v) {
            switch (held - ROWS) {
                case 0:
                    values[i] = (byte) v;
                    break;
                case 1:
                    values[i] = (short) v;
                    break;
                case 2:
                    values[i] = (int) v;
                    break;
                default:
                    values[i] = v;
                    break;
            }
        }

        long elementAt(int i) {
            return hasElement(i) ? values[i] : 0L;
        }

        int intAt(int i) {
            return (int) elementAt(i);
        }
    }

    /** Reads a port's text and tells it to a port, up to the first fault. */
    private static final class Reader {
        private static final int FENCE = 0;
        private static final int OPEN = 1;
        private static final int PERSON = 2;
        private static final int SEATS = 3;
        private static final int SCENT = 4;
        private static final int WORDS = 5;
        private static final int MOST_DIGITS = 2;

        private final int[] text = new int[LONGEST_ROW];
        private int length = 0;
        private int place = 0;
        private int numberStart = 0;
        private int fault = NONE;

        /** How many items a row has; behind a fault the port is left half told. */
        int read(Shelf row, Port onto) {
            length = row.length;
            for (int i = 0; i < length; i++) {
                text[i] = row.intAt(i);
            }
            place = 0;
            fault = NONE;
            int items = 0;
            boolean goesOn = true;
            while (goesOn && items <= length) {
                readItem(onto);
                items++;
                goesOn = fault == NONE && place < length;
                if (goesOn) {
                    readSign(';');
                    goesOn = fault == NONE;
                }
            }
            return items;
        }

        private void readItem(Port onto) {
            int start = place;
            int word = readWord();
            if (word == PERSON && !onto.hasRoom()) {
                fault = start;
            }
            if (fault != NONE) {
                return;
            }
            switch (word) {
                case FENCE:
                    readFence(onto);
                    break;
                case OPEN:
                    readOpen(onto);
                    break;
                case PERSON:
                    readPerson(onto);
                    break;
                case SEATS:
                    onto.seats = readNumber(1, MOST_SEATS);
                    break;
                default:
                    onto.scent = readNumber(0, MOST_SCENT);
                    break;
            }
        }

        private void readFence(Port onto) {
            int square = readNumber(0, SQUARES - 1);
            if (fault == NONE && !onto.mayBeFenced(square)) {
                fault = numberStart;
            }
            if (fault == NONE) {
                onto.putFence(square, true);
            }
        }

        private void readOpen(Port onto) {
            int square = readNumber(0, SQUARES - 1);
            if (fault == NONE) {
                onto.putFence(square, false);
            }
        }

        private void readPerson(Port onto) {
            int kind = readNumber(0, Kind.COUNT - 1);
            int a = readNumber(0, MOST_A);
            int want = readNumber(0, MOST_WANT);
            int speed = readNumber(1, MOST_SPEED);
            int at = readNumber(0, SQUARES - 1);
            if (fault == NONE && !onto.isOpen(at)) {
                fault = numberStart;
            }
            if (fault == NONE) {
                onto.addPerson(kind, a, want, speed, at);
            }
        }

        /** The word that stands here; without one the fault is where no word goes on. */
        private int readWord() {
            int longest = 0;
            for (int word = 0; word < WORDS; word++) {
                String letters = lettersOf(word);
                int alike = lettersAlike(letters);
                if (alike == letters.length()) {
                    place += alike;
                    return word;
                }
                longest = Math.max(longest, alike);
            }
            fault = place + longest;
            return NONE;
        }

        private static String lettersOf(int word) {
            switch (word) {
                case FENCE:
                    return "fence";
                case OPEN:
                    return "open";
                case PERSON:
                    return "person";
                case SEATS:
                    return "seats";
                default:
                    return "scent";
            }
        }

        private int lettersAlike(String letters) {
            for (int i = 0; i < letters.length(); i++) {
                if (!isSign(place + i, letters.charAt(i))) {
                    return i;
                }
            }
            return letters.length();
        }

        private boolean isSign(int i, char sign) {
            return i < length && text[i] == sign;
        }

        private void readSign(char sign) {
            if (isSign(place, sign)) {
                place++;
            } else {
                fault = place;
            }
        }

        /** A blank and the number behind it; 0 and nothing read, if there is a fault already. */
        private int readNumber(int least, int most) {
            if (fault == NONE) {
                readSign(' ');
            }
            if (fault != NONE) {
                return 0;
            }
            numberStart = place;
            int value = 0;
            for (int digits = 0; digits < MOST_DIGITS && isDigitNext(); digits++) {
                value = 10 * value + text[place] - '0';
                place++;
            }
            if (place == numberStart || value < least || value > most) {
                fault = numberStart;
            }
            return value;
        }

        private boolean isDigitNext() {
            return place < length && text[place] >= '0' && text[place] <= '9';
        }
    }

    /** What people do by moves, and the trace of it. */
    private static final class Deeds {
        static final int MOVES = 3;
        private static final int RUNS = 0;
        private static final int HIDES = 1;
        private static final int SITS = 2;

        // By kind and move; 0 where the kind has no body of its own.
        private static final int[] BODIES = {
            10, 11, 12,
            20, 0, 0,
            0, 30, 0,
            40, 0, 0,
            51, 0, 50,
            0, 0, 60,
            70, 71, 0
        };
        private static final int KEPT = 20;
        // No move of any kind goes this deep.
        private static final int DEEPEST = 20;

        private final int[] bodies = new int[KEPT];
        private int ran = 0;
        private int number = 0;
        private int a = 0;
        private int kind = 0;

        void forget() {
            ran = 0;
        }

        int bodyAt(int i) {
            return i >= 0 && i < ran && i < KEPT ? bodies[i] : NONE;
        }

        int perform(Port port, int person, int move, int x) {
            number = person;
            a = port.a[person];
            kind = port.kind[person];
            return begin(this, move, kind, x, 0);
        }

        private void note(int body) {
            if (ran < KEPT) {
                bodies[ran] = body;
            }
            ran++;
        }

        /** What the body answers that a kind, or the next kind above it, has for a move. */
        private static int begin(Deeds deeds, int move, int from, int x, int depth) {
            if (depth > DEEPEST) {
                return 0;
            }
            int body = bodyOf(move, from);
            int deeper = depth + 1;
            int own = deeds.kind;
            deeds.note(body);
            switch (body) {
                case 10:
                    return x + deeds.number;
                case 11:
                    return begin(deeds, RUNS, own, x, deeper) * 2;
                case 12:
                    int hidden = begin(deeds, HIDES, own, x, deeper);
                    return hidden ^ begin(deeds, RUNS, own, x - deeds.a, deeper);
                case 20:
                    return begin(deeds, RUNS, Kind.PERSON, x, deeper) + deeds.a;
                case 30:
                    return begin(deeds, HIDES, Kind.PERSON, x, deeper) * 3;
                case 40:
                    return begin(deeds, RUNS, Kind.COWARD, x + 1, deeper);
                case 50:
                    return -begin(deeds, SITS, Kind.PERSON, x, deeper);
                case 51:
                    return begin(deeds, RUNS, Kind.PERSON, x, deeper) - deeds.number;
                case 60:
                    return begin(deeds, SITS, Kind.LADY, x, deeper) ^ 5;
                case 70:
                    return begin(deeds, RUNS, Kind.PRETENDER, x, deeper) * 2;
                case 71:
                    return begin(deeds, HIDES, Kind.PRETENDER, x - deeds.a, deeper);
                default:
                    return 0;
            }
        }

        private static int bodyOf(int move, int from) {
            int kind = from;
            for (int level = 0; level < Kind.COUNT && Kind.isKind(kind); level++) {
                int body = BODIES[kind * MOVES + move];
                if (body != 0) {
                    return body;
                }
                kind = Kind.nextAbove(kind);
            }
            return 0;
        }
    }
}
