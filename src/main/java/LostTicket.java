import java.util.Arrays;

/** People sit down one behind the other, some without their ticket; every chance is told exactly. */
public final class LostTicket {
    public static final int NONE = -1, BAD = -2, NOT = -3, FULL = -4;

    private static final int NULL = 1, INDEX = 2, CAST = 3, STORE = 4, SIZE = 5;
    private static final int BYTES = 0, SHORTS = 1, INTS = 2;
    private static final int PLAIN = 0, LOST = 1, NEAR = 2, SORTED = 3;
    private static final int MOST_SEATS = 8, MOST_BYTES = 20, MOST_SEEN = 8;
    private static final int MOST_SHEETS = 4, MOST_ITEMS = 60;
    private static final int MOST_ORDERED = 6, MOST_TURNED = 9;
    private static final int SETS = 1 << MOST_SEATS;
    private static final int COUNTS = MOST_SEATS + 1;

    // The product of lcm(1..8), lcm(1..7), .. lcm(1..1): whoever comes i-th has at most 8 - i
    // SEATS to choose from, so that every chance is a whole number of parts of it.
    private static final long UNIT = 182891520000L;

    // lcm(1..9): every chance of being turned out is a whole number of parts of it.
    private static final long TURNED_UNIT = 2520L;

    private final House house;
    private final Chances chances;
    private final Doors doors;
    private final Witness witness;
    private final Evening play;
    private final Rings rings;
    private final Sheet[] sheets;
    private int finding;

    public LostTicket() {
        house = new House();
        chances = new Chances(house);
        doors = new Doors(house);
        witness = new Witness(house);
        play = new Evening(house);
        rings = new Rings(house);
        sheets = new Sheet[MOST_SHEETS];
        for (int s = 0; s < MOST_SHEETS; s++) {
            sheets[s] = new Sheet();
        }
        finding = 0;
    }

    // ---- texts

    public int type(int text, int b) {
        if (isNoText(text) || b < 0 || b > 255) {
            return BAD;
        }
        if (house.lengths[text] >= MOST_BYTES) {
            return FULL;
        }
        house.append(text, b);
        spoilAnswers();
        return house.lengths[text];
    }

    public int wipe(int text) {
        if (isNoText(text)) {
            return BAD;
        }
        int had = house.lengths[text];
        house.empty(text);
        spoilAnswers();
        return had;
    }

    public int fault(int text) {
        return isNoText(text) ? BAD : house.faults[text];
    }

    public int seat(int seat, int what) {
        if (isNoSeat(seat)) {
            return BAD;
        }
        switch (what) {
            case 0:
                return house.sorts[seat];
            case 1:
                return house.rowOf[seat];
            case 2:
                return house.ownersOf(seat);
            default:
                return BAD;
        }
    }

    public int person(int person, int what) {
        if (isNobody(person) || isNoPart(what)) {
            return BAD;
        }
        return what == 0 ? house.owns[person] : house.kinds[person];
    }

    // ---- chances

    public long likely(int person, int seat, int what) {
        if (isNobody(person) || isNoSeat(seat) || isNoPart(what)) {
            return asLong(BAD);
        }
        chances.refresh();
        return part(chances.sits[person * MOST_SEATS + seat], UNIT, what);
    }

    public long taken(int k, int seats, int what) {
        if (k < 0 || k > house.people || (seats & ~house.allSeats()) != 0 || isNoPart(what)) {
            return asLong(BAD);
        }
        chances.refresh();
        long weight = Integer.bitCount(seats) == k ? chances.reach[seats] : 0;
        return part(weight, UNIT, what);
    }

    public long wrong(int k, int what) {
        if (k < NONE || k > house.people || isNoPart(what)) {
            return asLong(BAD);
        }
        chances.refresh();
        return part(k == NONE ? chances.meanWrong : chances.wrongs[k], UNIT, what);
    }

    public long left(int seat, int what) {
        if (isNoSeat(seat) || isNoPart(what)) {
            return asLong(BAD);
        }
        chances.refresh();
        return part(chances.free[seat], UNIT, what);
    }

    public long looks(int what) {
        if (isNoPart(what)) {
            return asLong(BAD);
        }
        chances.refresh();
        return part(chances.meanLooks, UNIT, what);
    }

    public int judged(int s) {
        int refusal = refuseSitting(s, true);
        return refusal != 0 ? refusal : house.firstWhoCannot(sheets[s].items);
    }

    public long sitting(int s, int what) {
        int refusal = refuseSitting(s, !isNoPart(what));
        return refusal != 0 ? asLong(refusal) : part(house.chanceOf(sheets[s].items), UNIT, what);
    }

    // ---- orders, putting right

    public int order(int i) {
        if (i < 0) {
            return BAD;
        }
        if (house.people > MOST_ORDERED) {
            return FULL;
        }
        if (i >= house.people) {
            return BAD;
        }
        doors.refresh();
        return doors.best[i];
    }

    public long best(int what) {
        if (isNoPart(what)) {
            return asLong(BAD);
        }
        if (house.people > MOST_ORDERED) {
            return asLong(FULL);
        }
        doors.refresh();
        return part(doors.least, UNIT, what);
    }

    public int back(int s, int what) {
        int refusal = refuseSitting(s, what >= 0 && what <= 2);
        if (refusal != 0) {
            return refusal;
        }
        if (!rings.follow(sheets[s].items)) {
            return NOT;
        }
        if (what == 0) {
            return rings.number;
        }
        return what == 1 ? rings.changes : rings.rounds();
    }

    // ---- losers

    public int seen(int person, int seat) {
        if (!witness.mayTell(person, seat)) {
            return BAD;
        }
        if (witness.size >= MOST_SEEN) {
            return FULL;
        }
        witness.tell(person, seat);
        return witness.size;
    }

    public int read(int s) {
        int refusal = refuseSheet(s, true);
        if (refusal != 0) {
            return refusal;
        }
        int[] items = sheets[s].items;
        int came = 0;
        for (int i = 0; i + 1 < sheets[s].size && witness.size < MOST_SEEN; i += 2) {
            if (!witness.mayTell(items[i], items[i + 1])) {
                break;
            }
            witness.tell(items[i], items[i + 1]);
            came++;
        }
        return came;
    }

    public int forget() {
        int had = witness.size;
        witness.clear();
        return had;
    }

    public int losers() {
        witness.refresh();
        return witness.suspects;
    }

    public long share(int person, int what) {
        if (isNobody(person) || isNoPart(what) || house.kinds[person] != PLAIN) {
            return asLong(BAD);
        }
        witness.refresh();
        return witness.total == 0 ? asLong(NOT) : part(witness.weights[person], witness.total, what);
    }

    public int likeliest() {
        witness.refresh();
        return witness.heaviest();
    }

    public int ask(int what) {
        if (isNoPart(what)) {
            return BAD;
        }
        witness.refresh();
        int whom = witness.whomToAsk();
        if (whom == NONE) {
            return NOT;
        }
        return what == 0 ? whom : witness.worstCase(whom);
    }

    // ---- turning out, evenings

    public long turned(int n, int k, int what) {
        if (n < 1 || n > MOST_TURNED || k < 0 || k > n || isNoPart(what)) {
            return asLong(BAD);
        }
        // With m SEATS whose owners have not come with a ticket, the k losers sit on any k of them
        // alike, however often they were turned out: the next one's own is taken with chance k / m.
        long weight = 0;
        for (int m = k + 1; m <= n; m++) {
            weight += k * TURNED_UNIT / m;
        }
        return part(weight, TURNED_UNIT, what);
    }

    public int evening(int seed, int person) {
        if (person != NONE && isNobody(person)) {
            return BAD;
        }
        play.run(seed);
        return person == NONE ? play.wrongs : play.places[person];
    }

    // ---- sheets

    public int sheet(int s, int form, int n) {
        if (isNoSheet(s) || isNoForm(form) || n > MOST_ITEMS) {
            return BAD;
        }
        if (n < 0) {
            return find(SIZE);
        }
        sheets[s].renew(form, n);
        return n;
    }

    public int lose(int s) {
        int refusal = refuseSheet(s, true);
        if (refusal != 0) {
            return refusal;
        }
        int had = sheets[s].size;
        sheets[s].size = NONE;
        return had;
    }

    public int lay(int s, int form, int i, int v) {
        int refusal = refuseItem(s, form, i);
        if (refusal != 0) {
            return refusal;
        }
        sheets[s].put(i, v);
        return 1;
    }

    public int get(int s, int form, int i) {
        return refuseItem(s, form, i) != 0 ? Integer.MIN_VALUE : sheets[s].items[i];
    }

    public int copy(int s, int i, int t, int j, int n) {
        if (isNoSheet(s) || isNoSheet(t)) {
            return BAD;
        }
        Sheet from = sheets[s];
        Sheet to = sheets[t];
        if (from.size == NONE || to.size == NONE) {
            return find(NULL);
        }
        if (from.form != to.form) {
            return find(STORE);
        }
        if (!from.holds(i, n) || !to.holds(j, n)) {
            return find(INDEX);
        }
        System.arraycopy(from.items, i, to.items, j, n);
        return 1;
    }

    public int write(int seed, int s) {
        int refusal = refuseSheet(s, true);
        if (refusal != 0) {
            return refusal;
        }
        play.run(seed);
        int many = Math.min(house.people, sheets[s].size);
        for (int i = 0; i < many; i++) {
            sheets[s].put(i, play.places[i]);
        }
        return many;
    }

    public int count(int what) {
        switch (what) {
            case 0:
                return house.seats;
            case 1:
                return house.rows;
            case 2:
                return house.people;
            case 3:
                return house.lengths[0];
            case 4:
                return house.lengths[1];
            case 5:
                return witness.size;
            case 6:
                return house.countLost();
            case 7:
                return house.countUnowned();
            case 8:
                return finding;
            default:
                return BAD;
        }
    }

    public long digest() {
        long h = 17;
        for (int what = 0; what <= 7; what++) {
            h = 31 * h + count(what);
        }
        h = 31 * h + fault(0);
        h = 31 * h + fault(1);
        h = mixSeats(h);
        h = mixPeople(h);
        h = mix(h, wrong(NONE, 0), wrong(NONE, 1));
        h = mix(h, looks(0), looks(1));
        int first = (1 << house.people) - 1;
        h = mix(h, taken(house.people, first, 0), taken(house.people, first, 1));
        h = mix(h, best(0), best(1));
        h = mix(h, losers(), likeliest());
        h = mix(h, ask(0), ask(1));
        h = 31 * h + evening(7, NONE);
        return mix(h, turned(5, 2, 0), turned(5, 2, 1));
    }

    private long mixSeats(long start) {
        long h = start;
        for (int seat = 0; seat < house.seats; seat++) {
            for (int what = 0; what <= 2; what++) {
                h = 31 * h + seat(seat, what);
            }
            h = mix(h, left(seat, 0), left(seat, 1));
        }
        return h;
    }

    private long mixPeople(long start) {
        long h = start;
        for (int person = 0; person < house.people; person++) {
            int own = person(person, 0);
            h = mix(h, own, person(person, 1));
            h = mix(h, likely(person, own, 0), likely(person, own, 1));
        }
        return h;
    }

    private static long mix(long h, long one, long two) {
        return 31 * (31 * h + one) + two;
    }

    private void spoilAnswers() {
        chances.ready = false;
        doors.ready = false;
        witness.ready = false;
    }

    private static boolean isNoText(int text) {
        return text < 0 || text > 1;
    }

    private boolean isNoSeat(int seat) {
        return seat < 0 || seat >= house.seats;
    }

    private boolean isNobody(int person) {
        return person < 0 || person >= house.people;
    }

    private static boolean isNoPart(int what) {
        return what < 0 || what > 1;
    }

    private static boolean isNoSheet(int s) {
        return s < 0 || s >= MOST_SHEETS;
    }

    private static boolean isNoForm(int form) {
        return form < BYTES || form > INTS;
    }

    private int find(int number) {
        finding = number;
        return -10 - number;
    }

    /** 0, or why there is no such row; the other arguments come in because BAD is ahead of NULL. */
    private int refuseSheet(int s, boolean othersFit) {
        if (isNoSheet(s) || !othersFit) {
            return BAD;
        }
        return sheets[s].size == NONE ? find(NULL) : 0;
    }

    private int refuseSitting(int s, boolean othersFit) {
        int refusal = refuseSheet(s, othersFit);
        if (refusal != 0) {
            return refusal;
        }
        return sheets[s].size < house.people ? NOT : 0;
    }

    private int refuseItem(int s, int form, int i) {
        int refusal = refuseSheet(s, !isNoForm(form));
        if (refusal != 0) {
            return refusal;
        }
        if (sheets[s].form != form) {
            return find(CAST);
        }
        return sheets[s].holds(i, 1) ? 0 : find(INDEX);
    }

    private static long asLong(int refusal) {
        return Long.MIN_VALUE - refusal;
    }

    /** Of a FRACTION in lowest terms what is above (what = 0) or below. */
    private static long part(long above, long below, int what) {
        long divisor = commonDivisor(above, below);
        if (divisor == 0) {
            return 0;
        }
        return (what == 0 ? above : below) / divisor;
    }

    private static long commonDivisor(long one, long two) {
        long a = one;
        long b = two;
        for (int i = 0; i < 200 && b != 0; i++) {
            long rest = a % b;
            a = b;
            b = rest;
        }
        return a;
    }

    /** The two texts, and the SEATS and PEOPLE that they tell. */
    private static final class House {
        final int[][] bytes = new int[2][MOST_BYTES];
        final int[] lengths = new int[2];
        final int[] faults = new int[2];
        final int[] sorts = new int[MOST_SEATS];
        final int[] rowOf = new int[MOST_SEATS];
        final int[] bySort = new int[3];
        final int[] owns = new int[MOST_SEATS];
        final int[] kinds = new int[MOST_SEATS];
        int seats;
        int rows;
        int people;

        House() {
            parse();
        }

        void append(int text, int b) {
            if (lengths[text] < MOST_BYTES) {
                bytes[text][lengths[text]] = b;
                lengths[text]++;
            }
            parse();
        }

        void empty(int text) {
            lengths[text] = 0;
            parse();
        }

        private void parse() {
            // The PEOPLE come second: their figures are those of SEATS that there are.
            parseSeats();
            parsePeople();
        }

        private void parseSeats() {
            seats = 0;
            rows = 0;
            boolean inRow = false;
            int at = 0;
            for (; at < lengths[0]; at++) {
                int b = bytes[0][at];
                int sort = sortOf(b);
                if (sort != NONE && seats < MOST_SEATS) {
                    rows += inRow ? 0 : 1;
                    inRow = true;
                    addSeat(sort);
                } else if (b == ';' && inRow) {
                    inRow = false;
                } else {
                    break;
                }
            }
            faults[0] = at == lengths[0] && inRow ? NONE : at;
            if (faults[0] != NONE) {
                seats = 0;
                rows = 0;
            }
        }

        private void addSeat(int sort) {
            if (seats == 0) {
                Arrays.fill(bySort, 0);
            }
            sorts[seats] = sort;
            rowOf[seats] = rows - 1;
            bySort[sort] |= 1 << seats;
            seats++;
        }

        private void parsePeople() {
            people = 0;
            int figure = NONE;
            int at = 0;
            for (; at < lengths[1]; at++) {
                int b = bytes[1][at];
                if (figure == NONE) {
                    if (people >= seats || b < '0' || b >= '0' + seats) {
                        break;
                    }
                    figure = b - '0';
                } else {
                    int kind = kindOf(b);
                    if (kind == NONE) {
                        break;
                    }
                    owns[people] = figure;
                    kinds[people] = kind;
                    people++;
                    figure = NONE;
                }
            }
            faults[1] = at == lengths[1] && figure == NONE ? NONE : at;
            if (faults[1] != NONE) {
                people = 0;
            }
        }

        private static int sortOf(int b) {
            switch (b) {
                case 'w':
                    return 0;
                case 'm':
                    return 1;
                case 'a':
                    return 2;
                default:
                    return NONE;
            }
        }

        private static int kindOf(int b) {
            switch (b) {
                case 'o':
                    return PLAIN;
                case 'l':
                    return LOST;
                case 'n':
                    return NEAR;
                case 's':
                    return SORTED;
                default:
                    return NONE;
            }
        }

        int allSeats() {
            return (1 << seats) - 1;
        }

        int ownersOf(int seat) {
            int owners = 0;
            for (int person = 0; person < people; person++) {
                if (owns[person] == seat) {
                    owners |= 1 << person;
                }
            }
            return owners;
        }

        int countLost() {
            int many = 0;
            for (int person = 0; person < people; person++) {
                many += kinds[person] == LOST ? 1 : 0;
            }
            return many;
        }

        int countUnowned() {
            int many = 0;
            for (int seat = 0; seat < seats; seat++) {
                many += ownersOf(seat) == 0 ? 1 : 0;
            }
            return many;
        }

        /** The SEATS that such a one may sit down on, each alike, when those of a set are taken. */
        int choices(int takenSet, int own, int kind) {
            int free = allSeats() & ~takenSet;
            if (kind != LOST && has(free, own)) {
                return 1 << own;
            }
            if (kind == NEAR) {
                return nextFree(free, own);
            }
            int alike = kind == SORTED ? free & bySort[sorts[own]] : free;
            return alike != 0 ? alike : free;
        }

        private int nextFree(int free, int own) {
            for (int steps = 1; steps < seats; steps++) {
                int far = own + steps;
                int bit = 1 << (far >= seats ? far - seats : far);
                if ((free & bit) != 0) {
                    return bit;
                }
            }
            return 0;
        }

        /** How many SEATS a near one passes over from one's own on to another. */
        int passedOver(int own, int seat) {
            return seat >= own ? seat - own : seat - own + seats;
        }

        int firstWhoCannot(int[] items) {
            int takenSet = 0;
            for (int person = 0; person < people; person++) {
                int choices = choices(takenSet, owns[person], kinds[person]);
                if (!isIn(choices, items[person])) {
                    return person;
                }
                takenSet |= 1 << items[person];
            }
            return NONE;
        }

        long chanceOf(int[] items) {
            int takenSet = 0;
            long weight = UNIT;
            for (int person = 0; person < people; person++) {
                int choices = choices(takenSet, owns[person], kinds[person]);
                int many = Integer.bitCount(choices);
                if (many == 0 || !isIn(choices, items[person])) {
                    return 0;
                }
                weight /= many;
                takenSet |= 1 << items[person];
            }
            return weight;
        }

        private boolean isIn(int set, int item) {
            return item >= 0 && item < seats && has(set, item);
        }

        static boolean has(int set, int member) {
            return (set >> member & 1) == 1;
        }
    }

    /** All that is told of PEOPLE who sit in the order in which they stand, in parts of UNIT. */
    private static final class Chances {
        // A set of k SEATS can only be taken behind the first k: the set alone tells how many sat.
        final long[] reach = new long[SETS];
        final long[] sits = new long[MOST_SEATS * MOST_SEATS];
        final long[] wrongs = new long[COUNTS];
        final long[] free = new long[MOST_SEATS];
        long meanWrong;
        long meanLooks;
        boolean ready;
        private final House house;
        private final long[] wrongIn = new long[SETS * COUNTS];

        Chances(House house) {
            this.house = house;
        }

        void refresh() {
            if (ready) {
                return;
            }
            clear();
            reach[0] = UNIT;
            wrongIn[0] = UNIT;
            int last = house.allSeats();
            for (int set = 0; set <= last; set++) {
                if (reach[set] != 0) {
                    goOn(set, Integer.bitCount(set));
                }
            }
            for (int k = 1; k <= house.people; k++) {
                meanWrong += k * wrongs[k];
            }
            ready = true;
        }

        private void clear() {
            Arrays.fill(reach, 0L);
            Arrays.fill(sits, 0L);
            Arrays.fill(wrongs, 0L);
            Arrays.fill(free, 0L);
            Arrays.fill(wrongIn, 0L);
            meanWrong = 0;
            meanLooks = 0;
        }

        private void goOn(int set, int person) {
            if (person >= house.people) {
                close(set, person);
                return;
            }
            int choices = house.choices(set, house.owns[person], house.kinds[person]);
            int many = Integer.bitCount(choices);
            if (many == 0) {
                return;
            }
            for (int seat = 0; seat < house.seats; seat++) {
                if (House.has(choices, seat)) {
                    sitDown(set, person, seat, many);
                }
            }
        }

        private void sitDown(int set, int person, int seat, int many) {
            int own = house.owns[person];
            int next = set | 1 << seat;
            long weight = reach[set] / many;
            reach[next] += weight;
            sits[person * MOST_SEATS + seat] += weight;
            if (house.kinds[person] == NEAR) {
                meanLooks += weight * house.passedOver(own, seat);
            }
            int more = seat == own ? 0 : 1;
            for (int k = 0; k <= person; k++) {
                wrongIn[next * COUNTS + k + more] += wrongIn[set * COUNTS + k] / many;
            }
        }

        private void close(int set, int people) {
            for (int k = 0; k <= people; k++) {
                wrongs[k] += wrongIn[set * COUNTS + k];
            }
            for (int seat = 0; seat < house.seats; seat++) {
                if (!House.has(set, seat)) {
                    free[seat] += reach[set];
                }
            }
        }
    }

    /** The ORDER: rows are tried from the least on, and left where they cannot become better. */
    private static final class Doors {
        final int[] best = new int[MOST_ORDERED];
        long least;
        boolean ready;
        private final House house;
        private final int[] row = new int[MOST_ORDERED];
        // Behind d who were let in only sets of d SEATS count, so that one row serves all depths.
        private final long[] reach = new long[SETS];
        // Of each depth and SEAT: how likely it is taken; at depth 0 none is.
        private final long[] takenBehind = new long[(MOST_ORDERED + 1) * MOST_SEATS];

        Doors(House house) {
            this.house = house;
        }

        void refresh() {
            if (ready || house.people > MOST_ORDERED) {
                return;
            }
            least = Long.MAX_VALUE;
            reach[0] = UNIT;
            letIn(0, 0, 0);
            ready = true;
        }

        private void letIn(int depth, int inside, long cost) {
            if (depth >= house.people || depth >= MOST_ORDERED) {
                keep(cost);
                return;
            }
            if (cost + leastToCome(depth, inside) >= least) {
                return;
            }
            if (onlyLostOutside(inside)) {
                letInLost(depth, inside, cost);
                return;
            }
            for (int person = 0; person < house.people; person++) {
                if (House.has(inside, person) || hasTwinOutside(person, inside)) {
                    continue;
                }
                long more = cost + wrongNext(depth, person);
                if (more < least) {
                    row[depth] = person;
                    seatNext(depth, person);
                    letIn(depth + 1, inside | 1 << person, more);
                }
            }
        }

        private boolean onlyLostOutside(int inside) {
            for (int person = 0; person < house.people; person++) {
                if (!House.has(inside, person) && house.kinds[person] != LOST) {
                    return false;
                }
            }
            return true;
        }

        /** One behind the other they sit on any free SEATS alike: none is worse off for being later. */
        private void letInLost(int depth, int inside, long cost) {
            long sum = cost;
            int at = depth;
            for (int person = 0; person < house.people && at < MOST_ORDERED; person++) {
                if (!House.has(inside, person)) {
                    sum += wrongNext(depth, person);
                    row[at] = person;
                    at++;
                }
            }
            keep(sum);
        }

        private void keep(long cost) {
            if (cost < least) {
                least = cost;
                System.arraycopy(row, 0, best, 0, MOST_ORDERED);
            }
        }

        /** Of two who are alike the one with the least number goes first: the row is less then. */
        private boolean hasTwinOutside(int person, int inside) {
            for (int other = 0; other < person; other++) {
                if (!House.has(inside, other) && house.owns[other] == house.owns[person]
                        && house.kinds[other] == house.kinds[person]) {
                    return true;
                }
            }
            return false;
        }

        /** What is taken stays taken, and whoever comes last has the fewest free SEATS. */
        private long leastToCome(int depth, int inside) {
            long sum = 0;
            int fewest = house.seats - house.people + 1;
            for (int person = 0; person < house.people; person++) {
                if (!House.has(inside, person)) {
                    sum += wrongAmong(fewest, depth, person);
                }
            }
            return sum;
        }

        private long wrongNext(int depth, int person) {
            return wrongAmong(house.seats - depth, depth, person);
        }

        private long wrongAmong(int free, int depth, int person) {
            long ownTaken = takenBehind[depth * MOST_SEATS + house.owns[person]];
            if (house.kinds[person] != LOST || free <= 0) {
                return ownTaken;
            }
            return UNIT - (UNIT - ownTaken) / free;
        }

        private void seatNext(int depth, int person) {
            clearSets(depth + 1);
            copyTaken(depth);
            int set = (1 << depth) - 1;
            for (int i = 0; i < SETS && set <= house.allSeats(); i++) {
                if (reach[set] != 0) {
                    int choices = house.choices(set, house.owns[person], house.kinds[person]);
                    spread(set, choices, (depth + 1) * MOST_SEATS);
                }
                set = nextAsLarge(set);
            }
        }

        private void copyTaken(int depth) {
            int base = depth * MOST_SEATS;
            for (int seat = 0; seat < MOST_SEATS; seat++) {
                takenBehind[base + MOST_SEATS + seat] = takenBehind[base + seat];
            }
        }

        private void clearSets(int size) {
            int set = (1 << size) - 1;
            for (int i = 0; i < SETS && set <= house.allSeats(); i++) {
                reach[set] = 0;
                set = nextAsLarge(set);
            }
        }

        private void spread(int set, int choices, int base) {
            int many = Integer.bitCount(choices);
            if (many == 0) {
                return;
            }
            long weight = reach[set] / many;
            for (int seat = 0; seat < house.seats; seat++) {
                if (House.has(choices, seat)) {
                    reach[set | 1 << seat] += weight;
                    takenBehind[base + seat] += weight;
                }
            }
        }

        /** The next higher set of as many members; of none there is no other. */
        private static int nextAsLarge(int set) {
            int lowest = set & -set;
            if (lowest == 0) {
                return SETS;
            }
            int ripple = set + lowest;
            return ripple | (ripple ^ set) / lowest >> 2;
        }
    }

    /** What was SEEN, and what follows from it of who has lost the ticket. */
    private static final class Witness {
        final long[] weights = new long[MOST_SEATS];
        int size;
        int suspects;
        long total;
        boolean ready;
        private final House house;
        private final int[] persons = new int[MOST_SEEN];
        private final int[] places = new int[MOST_SEEN];
        private final int[] allowed = new int[MOST_SEATS];
        private final int[] kinds = new int[MOST_SEATS];
        // Of each loser and each one to ask: the SEATS where that one can sit, as bits.
        private final int[] answers = new int[MOST_SEATS * MOST_SEATS];
        private final long[] reach = new long[SETS];

        Witness(House house) {
            this.house = house;
        }

        boolean mayTell(int person, int seat) {
            return person >= NONE && person < MOST_SEATS && seat >= 0 && seat < MOST_SEATS;
        }

        void tell(int person, int seat) {
            if (size < MOST_SEEN) {
                persons[size] = person;
                places[size] = seat;
                size++;
                ready = false;
            }
        }

        void clear() {
            size = 0;
            ready = false;
        }

        void refresh() {
            if (ready) {
                return;
            }
            Arrays.fill(weights, 0L);
            Arrays.fill(answers, 0);
            suspects = 0;
            total = 0;
            narrow();
            for (int loser = 0; loser < house.people; loser++) {
                if (house.kinds[loser] == PLAIN) {
                    suspect(loser);
                }
            }
            ready = true;
        }

        /** SEEN becomes, of each of the PEOPLE, the SEATS where one may sit at last. */
        private void narrow() {
            Arrays.fill(allowed, house.allSeats());
            for (int i = 0; i < size; i++) {
                if (persons[i] >= house.people || places[i] >= house.seats) {
                    Arrays.fill(allowed, 0);
                } else if (persons[i] == NONE) {
                    forbid(places[i]);
                } else {
                    allowed[persons[i]] &= 1 << places[i];
                }
            }
        }

        private void forbid(int seat) {
            for (int person = 0; person < MOST_SEATS; person++) {
                allowed[person] &= ~(1 << seat);
            }
        }

        private void suspect(int loser) {
            System.arraycopy(house.kinds, 0, kinds, 0, MOST_SEATS);
            kinds[loser] = LOST;
            walkForward();
            weights[loser] = weightAtLast();
            total += weights[loser];
            if (weights[loser] != 0) {
                suspects |= 1 << loser;
                walkBackward(loser);
            }
        }

        private void walkForward() {
            Arrays.fill(reach, 0L);
            reach[0] = UNIT;
            int last = house.allSeats();
            for (int set = 0; set <= last; set++) {
                int person = Integer.bitCount(set);
                if (reach[set] != 0 && person < house.people) {
                    int choices = house.choices(set, house.owns[person], kinds[person]);
                    spread(set, choices & allowed[person], Integer.bitCount(choices));
                }
            }
        }

        private void spread(int set, int open, int many) {
            if (many == 0) {
                return;
            }
            long weight = reach[set] / many;
            for (int seat = 0; seat < house.seats; seat++) {
                if (House.has(open, seat)) {
                    reach[set | 1 << seat] += weight;
                }
            }
        }

        private long weightAtLast() {
            long sum = 0;
            int last = house.allSeats();
            for (int set = 0; set <= last; set++) {
                sum += Integer.bitCount(set) == house.people ? reach[set] : 0;
            }
            return sum;
        }

        /** Sets from which not all can sit as SEEN are struck out; what leads to the others stays. */
        private void walkBackward(int loser) {
            for (int set = house.allSeats(); set >= 0; set--) {
                int person = Integer.bitCount(set);
                if (reach[set] != 0 && person < house.people) {
                    int choices = house.choices(set, house.owns[person], kinds[person]);
                    int ways = waysOn(set, choices & allowed[person]);
                    answers[loser * MOST_SEATS + person] |= ways;
                    if (ways == 0) {
                        reach[set] = 0;
                    }
                }
            }
        }

        private int waysOn(int set, int open) {
            int ways = 0;
            for (int seat = 0; seat < house.seats; seat++) {
                if (House.has(open, seat) && reach[set | 1 << seat] != 0) {
                    ways |= 1 << seat;
                }
            }
            return ways;
        }

        int heaviest() {
            int found = NONE;
            long most = 0;
            for (int person = 0; person < house.people; person++) {
                if (weights[person] > most) {
                    most = weights[person];
                    found = person;
                }
            }
            return found;
        }

        int whomToAsk() {
            int found = NONE;
            int fewest = MOST_SEATS + 1;
            for (int person = 0; person < house.people && suspects != 0; person++) {
                int worst = worstCase(person);
                if (!wasSeen(person) && worst < fewest) {
                    fewest = worst;
                    found = person;
                }
            }
            return found;
        }

        private boolean wasSeen(int person) {
            for (int i = 0; i < size; i++) {
                if (persons[i] == person) {
                    return true;
                }
            }
            return false;
        }

        int worstCase(int asked) {
            int worst = 0;
            for (int seat = 0; seat < house.seats; seat++) {
                int remain = 0;
                for (int loser = 0; loser < house.people; loser++) {
                    remain += House.has(answers[loser * MOST_SEATS + asked], seat) ? 1 : 0;
                }
                worst = Math.max(worst, remain);
            }
            return worst;
        }
    }

    /** An EVENING by a SEED. */
    private static final class Evening {
        final int[] places = new int[MOST_SEATS];
        int wrongs;
        private final House house;
        private int state;

        Evening(House house) {
            this.house = house;
        }

        void run(int seed) {
            state = seed;
            wrongs = 0;
            int set = 0;
            for (int person = 0; person < house.people; person++) {
                places[person] = place(set, house.owns[person], house.kinds[person]);
                set |= 1 << places[person];
                wrongs += places[person] == house.owns[person] ? 0 : 1;
            }
        }

        private int place(int set, int own, int kind) {
            int choices = house.choices(set, own, kind);
            // A LOT is drawn from a single SEAT, too: it moves the SEED on.
            boolean byLot = kind == LOST || kind != NEAR && House.has(set, own);
            return member(choices, byLot ? lot(Integer.bitCount(choices)) : 0);
        }

        private int lot(int many) {
            state = 1103515245 * state + 12345;
            return many > 0 ? (state >>> 16) % many : 0;
        }

        private int member(int set, int number) {
            int ahead = 0;
            for (int seat = 0; seat < house.seats; seat++) {
                if (House.has(set, seat)) {
                    if (ahead == number) {
                        return seat;
                    }
                    ahead++;
                }
            }
            return 0;
        }
    }

    /** BACK: the rings in which those who sit wrong go to their own SEATS. */
    private static final class Rings {
        int number;
        int changes;
        private int longest;
        private final House house;
        private final int[] goal = new int[MOST_SEATS];

        Rings(House house) {
            this.house = house;
        }

        /** Whether it is a SITTING that can be put right; number, changes and rounds() tell how. */
        boolean follow(int[] items) {
            if (!isWhole(items)) {
                return false;
            }
            for (int person = 0; person < house.people; person++) {
                goal[items[person]] = house.owns[person];
            }
            countRings();
            return true;
        }

        private boolean isWhole(int[] items) {
            int sat = 0;
            int owned = 0;
            for (int person = 0; person < house.people; person++) {
                if (items[person] < 0 || items[person] >= house.seats) {
                    return false;
                }
                sat |= 1 << items[person];
                owned |= 1 << house.owns[person];
            }
            return sat == house.allSeats() && owned == house.allSeats();
        }

        private void countRings() {
            number = 0;
            changes = 0;
            longest = 0;
            int done = 0;
            for (int start = 0; start < house.seats; start++) {
                int length = 0;
                int seat = start;
                while (length < house.seats && !House.has(done, seat)) {
                    done |= 1 << seat;
                    seat = goal[seat];
                    length++;
                }
                if (length > 1) {
                    number++;
                    changes += length - 1;
                    longest = Math.max(longest, length);
                }
            }
        }

        /** Any ring is turned by two rounds of changes at most, as a turn is by two reflections. */
        int rounds() {
            if (longest < 2) {
                return 0;
            }
            return longest == 2 ? 1 : 2;
        }
    }

    /** A SHEET; its row is made once and used again. */
    private static final class Sheet {
        final int[] items = new int[MOST_ITEMS];
        int form;
        int size = NONE;

        void renew(int newForm, int newSize) {
            form = newForm;
            size = newSize;
            Arrays.fill(items, 0);
        }

        boolean holds(int from, int many) {
            return from >= 0 && many >= 0 && from <= size - many;
        }

        void put(int i, int v) {
            if (form == BYTES) {
                items[i] = (byte) v;
            } else if (form == SHORTS) {
                items[i] = (short) v;
            } else {
                items[i] = v;
            }
        }
    }
}
