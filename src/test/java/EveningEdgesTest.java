import java.math.BigInteger;
import java.util.List;
import java.util.function.Supplier;

/** Promises 24, 25 and 31: each sentence that names an edge of TURNED OUT, EVENING and LOTS, by itself. */
public final class EveningEdgesTest {
    private static final Check CHECK = new Check();
    private static final Edge EDGE = new Edge(CHECK);
    private static final long BAD = Edge.asLong(Edge.BAD);
    private static final int[] SEEDS = {0, 1, -1, 7, 12345, 65535, 65536, -65536, 1103515245, -1103515245,
        Integer.MAX_VALUE, Integer.MIN_VALUE, Integer.MAX_VALUE - 1, Integer.MIN_VALUE + 1};

    public static void main(String[] args) {
        turnedNobodyLost();
        turnedAllLost();
        turnedSomeLost();
        turnedRefuses();
        eveningOfNobody();
        eveningOfOne();
        lotsByHand();
        lotsWrap();
        lotsGoOn();
        whoSitsRightOrNearDrawsNoLot();
        lotOfOneMovesTheSeed();
        lotsOfTheSort();
        eveningWrongs();
        eveningRefuses();
        eveningChangesNothing();
        writeAsManyAsThereAre();
        writeEachForm();
        writeRefuses();
        CHECK.end("EveningEdgesTest");
    }

    private static LostTicket typed(String seats, String people) {
        return TextsTest.typed(seats, people);
    }

    // ---- 24

    private static void turned(int n, int k, long above, long below) {
        LostTicket x = new LostTicket();
        EDGE.fraction("24: turned " + n + " " + k, what -> x.turned(n, k, what), above, below);
    }

    private static void turnedNobodyLost() {
        for (int n = 1; n <= 9; n++) {
            turned(n, 0, 0, 1);
        }
    }

    private static void turnedAllLost() {
        for (int n = 1; n <= 9; n++) {
            turned(n, n, 0, 1);
        }
    }

    private static void turnedSomeLost() {
        turned(2, 1, 1, 2);
        turned(3, 1, 5, 6);
        turned(3, 2, 2, 3);
        turned(5, 2, 47, 30);
        turned(9, 1, 4609, 2520);
        turned(9, 8, 8, 9);
    }

    private static void turnedRefuses() {
        Supplier<LostTicket> some = () -> typed("wm;a", "0l1o");
        for (int n : new int[] {Integer.MIN_VALUE, -1, 0, 10, 11, Integer.MAX_VALUE}) {
            EDGE.refused("24: n " + n, some, x -> x.turned(n, 0, 0), BAD);
            EDGE.refused("24: n " + n + " of them lost", some, x -> x.turned(n, n, 0), BAD);
        }
        for (int k : new int[] {Integer.MIN_VALUE, -1, 4, 9, Integer.MAX_VALUE}) {
            EDGE.refused("24: k " + k, some, x -> x.turned(3, k, 0), BAD);
        }
        for (int n = 1; n <= 9; n++) {
            CHECK.due("24: one more than there are", new LostTicket().turned(n, n + 1, 1), BAD);
            CHECK.due("24: below 0", new LostTicket().turned(n, -1, 1), BAD);
        }
    }

    // ---- 25

    private static void evening(LostTicket x, int seed, int wrongs, int... at) {
        CHECK.due("25: evening " + seed + ", WRONG", x.evening(seed, LostTicket.NONE), wrongs);
        for (int person = 0; person < at.length; person++) {
            CHECK.due("25: evening " + seed + " of " + person, x.evening(seed, person), at[person]);
        }
        CHECK.due("25: nobody beyond", x.evening(seed, at.length), Edge.BAD);
    }

    private static void eveningOfNobody() {
        for (int seed : SEEDS) {
            evening(new LostTicket(), seed, 0);
            evening(typed("www", ""), seed, 0);
            evening(typed("www;", "0l"), seed, 0);
        }
    }

    private static void eveningOfOne() {
        for (int seed : SEEDS) {
            evening(typed("w", "0l"), seed, 0, 0);
            evening(typed("www", "2o"), seed, 0, 2);
            evening(typed("www", "2n"), seed, 0, 2);
            evening(typed("www", "2s"), seed, 0, 2);
        }
    }

    // The SEED becomes 12345, 1103527590, 3191464396, 1043980748, 2147495993: its upper 16 bits are
    // 0, 16838, 48697, 15929, 32768.
    private static void lotsByHand() {
        evening(typed("wwwwwww", "0l"), 0, 0, 0);
        evening(typed("wwwwwww", "0l"), 1, 1, 3);
        evening(typed("wwwwwww", "0l"), -1, 1, 5);
        evening(typed("wwwwwww", "0l"), Integer.MAX_VALUE, 1, 4);
        evening(typed("wwwwwww", "0l"), Integer.MIN_VALUE, 1, 1);
        evening(typed("wwwwwwww", "0l"), 1, 1, 6);
        evening(typed("wwwwwwww", "0l"), -1, 1, 1);
        evening(typed("wwwwwwww", "1l"), -1, 0, 1);
    }

    /** The SEED behind it, by numbers without end; % of 2 to the 32 wraps it. */
    private static long nextSeed(long seed) {
        BigInteger next = BigInteger.valueOf(1103515245).multiply(BigInteger.valueOf(seed))
                .add(BigInteger.valueOf(12345));
        return next.mod(BigInteger.ONE.shiftLeft(32)).longValueExact();
    }

    private static int lot(long seed, int many) {
        return (int) (seed / 65536 % many);
    }

    private static void lotsWrap() {
        for (int seed : SEEDS) {
            for (int seats = 1; seats <= 8; seats++) {
                int want = lot(nextSeed(seed), seats);
                LostTicket x = typed("w".repeat(seats), "0l");
                CHECK.due("25: LOT of " + seats, x.evening(seed, 0), want);
                CHECK.due("25: WRONG", x.evening(seed, LostTicket.NONE), want == 0 ? 0 : 1);
            }
        }
    }

    private static void lotsGoOn() {
        for (int seed : SEEDS) {
            LostTicket x = typed("wwwwwwww", "0l0l0l0l0l0l0l0l");
            List<Integer> free = TurnedTest.seatsIn(255);
            long state = seed;
            for (int person = 0; person < 8; person++) {
                state = nextSeed(state);
                int seat = free.remove(lot(state, free.size()));
                CHECK.due("25: the one of that number, from the least on", x.evening(seed, person), seat);
            }
        }
    }

    private static void whoSitsRightOrNearDrawsNoLot() {
        for (int seed : SEEDS) {
            LostTicket x = typed("wwwwwwww", "7o7n6s1n2l");
            int want = TurnedTest.seatsIn(255 & ~(1 << 7 | 1 << 0 | 1 << 6 | 1 << 1)).get(lot(nextSeed(seed), 4));
            CHECK.due("25: the first LOT is the lost one's", x.evening(seed, 4), want);
            CHECK.due("25: near, round", x.evening(seed, 1), 0);
        }
    }

    // Read so: a LOT of one is a LOT. 0s finds one w, then the lost one draws by the second SEED.
    private static void lotOfOneMovesTheSeed() {
        for (int seed : SEEDS) {
            LostTicket x = typed("wmmmmw", "0o0s1l");
            CHECK.due("25: the one of the SORT", x.evening(seed, 1), 5);
            CHECK.due("25: by the second LOT", x.evening(seed, 2), 1 + lot(nextSeed(nextSeed(seed)), 4));
        }
    }

    private static void lotsOfTheSort() {
        for (int seed : SEEDS) {
            int first = lot(nextSeed(seed), 3);
            CHECK.due("25: of the SORT alone", typed("wmwmwmwm", "0o0s").evening(seed, 1), 2 + 2 * first);
            CHECK.due("25: of any, if none is left", typed("wmam", "0o0s").evening(seed, 1), 1 + first);
            CHECK.due("25: a plain one of any", typed("wmwm", "0o0o").evening(seed, 1), 1 + first);
        }
    }

    private static void eveningWrongs() {
        CHECK.due("25: all but one", typed("wwwwwwww", "0n0n0n0n0n0n0n0n").evening(0, LostTicket.NONE), 7);
        CHECK.due("25: none", typed("wwwwwwww", "0n1n2n3n4n5n6n7n").evening(0, LostTicket.NONE), 0);
    }

    private static void eveningRefuses() {
        Supplier<LostTicket> two = () -> typed("wm;a", "0l1o");
        for (int person : new int[] {Integer.MIN_VALUE, -3, -2, 2, 3, 7, 8, Integer.MAX_VALUE}) {
            for (int seed : new int[] {0, -1, Integer.MIN_VALUE}) {
                EDGE.refused("25: person " + person, two, x -> x.evening(seed, person), Edge.BAD);
            }
        }
    }

    private static void eveningChangesNothing() {
        LostTicket x = typed("wwwwwwww", "0l1o2o3o4o5o6o7o");
        long digest = x.digest();
        for (int person = -1; person < 8; person++) {
            int once = x.evening(99, person);
            x.evening(100, person);
            CHECK.due("25: the same again", x.evening(99, person), once);
        }
        CHECK.due("25: nothing is kept", x.digest(), digest);
    }

    // ---- 31

    private static LostTicket three(int form, int items) {
        LostTicket x = typed("wwwwww", "5o5n4o");
        x.sheet(0, form, items);
        for (int i = 0; i < items; i++) {
            x.lay(0, form, i, 77);
        }
        return x;
    }

    private static void writeAsManyAsThereAre() {
        int[] at = {5, 0, 4};
        for (int items = 0; items <= 5; items++) {
            LostTicket x = three(2, items);
            CHECK.due("31: how many of " + items, x.write(1, 0), Math.min(3, items));
            for (int i = 0; i < items; i++) {
                CHECK.due("31: item " + i + " of " + items, x.get(0, 2, i), i < 3 ? at[i] : 77);
            }
            CHECK.due("31: as many items as before", x.lose(0), items);
        }
        LostTicket x = three(2, 4);
        x.wipe(1);
        CHECK.due("31: nobody", x.write(1, 0), 0);
        CHECK.due("31: nobody, so it stays", x.get(0, 2, 0), 77);
        x = typed("wwwwwwww", "7o6o5o4o3o2o1o0o");
        x.sheet(3, 0, 60);
        CHECK.due("31: eight to 60 items", x.write(0, 3), 8);
        CHECK.due("31: the last one", x.get(3, 0, 0), 7);
        CHECK.due("31: the first one", x.get(3, 0, 7), 0);
    }

    private static void writeEachForm() {
        for (int seed : SEEDS) {
            for (int form = 0; form <= 2; form++) {
                LostTicket x = typed("wwwwwwww", "0l1o2o3s4n5o6o7o");
                x.sheet(1, form, 8);
                CHECK.due("31: write", x.write(seed, 1), 8);
                for (int person = 0; person < 8; person++) {
                    CHECK.due("31: as by evening()", x.get(1, form, person), x.evening(seed, person));
                }
                CHECK.due("31: one can sit so", x.judged(1), LostTicket.NONE);
            }
        }
    }

    private static void writeRefuses() {
        Supplier<LostTicket> some = () -> three(1, 4);
        for (int sheet : new int[] {Integer.MIN_VALUE, -1, 4, 5, Integer.MAX_VALUE}) {
            EDGE.refused("31: SHEET " + sheet, some, x -> x.write(7, sheet), Edge.BAD);
        }
        for (int s = 1; s <= 3; s++) {
            int sheet = s;
            EDGE.found("31: LOST", some, x -> x.write(7, sheet), Edge.NULL, 1);
        }
        EDGE.found("31: LOST, with nobody", LostTicket::new, x -> x.write(7, 0), Edge.NULL, 1);
    }
}
