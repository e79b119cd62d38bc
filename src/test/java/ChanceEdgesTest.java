import java.util.function.Supplier;

/** Promises 7 to 13, and how they SIT: each sentence that names an edge, by itself, reckoned by hand. */
public final class ChanceEdgesTest {
    private static final Check CHECK = new Check();
    private static final Edge EDGE = new Edge(CHECK);
    private static final long BAD = Edge.asLong(Edge.BAD);
    private static final int[] FAR = {Integer.MIN_VALUE, -2, 9, 31, 32, 33, 64, Integer.MAX_VALUE};
    private static final String LOST_FIRST = "0l1o2o3o4o5o6o7o";
    private static final String ALL_LOST = "0l1l2l3l4l5l6l7l";

    public static void main(String[] args) {
        theOnlySeat();
        lostSitsOnTheOwnOneToo();
        plainOnAnyFreeOne();
        nearToTheRightAndRound();
        sortedWhileThereIsOneOfTheSort();
        ownOneOfAnotherToo();
        likelyOfEight();
        likelyRefuses();
        takenBehindNone();
        takenBehindAll();
        takenOfAnotherSize();
        takenRefuses();
        wrongOfNobody();
        wrongOfEight();
        wrongRefuses();
        leftOfNobodyAndOfAll();
        leftRefuses();
        looksOfNobodyAndOfOthers();
        looksRound();
        looksRefuses();
        judgedNobody();
        judgedFirstWhoCannot();
        judgedItemsThatAreNoSeats();
        judgedAndSittingRefuse();
        sittingOfEight();
        CHECK.end("ChanceEdgesTest");
    }

    private static LostTicket typed(String seats, String people) {
        return TextsTest.typed(seats, people);
    }

    private static LostTicket laid(String seats, String people, int... items) {
        LostTicket x = typed(seats, people);
        lay(x, items);
        return x;
    }

    private static void lay(LostTicket x, int... items) {
        x.sheet(0, 2, items.length);
        for (int i = 0; i < items.length; i++) {
            x.lay(0, 2, i, items[i]);
        }
    }

    private static void likely(String seats, String people, int person, int seat, long above, long below) {
        LostTicket x = typed(seats, people);
        EDGE.fraction("7: likely " + seats + " " + people + " " + person + " on " + seat,
                what -> x.likely(person, seat, what), above, below);
    }

    // ---- how they SIT

    private static void theOnlySeat() {
        for (String kind : new String[] {"o", "l", "n", "s"}) {
            likely("a", "0" + kind, 0, 0, 1, 1);
        }
        likely("wma", "0l1l2l", 2, 0, 1, 3);
        likely("wm", "0o0l", 1, 1, 1, 1);
        likely("wm", "0o0o", 1, 1, 1, 1);
        likely("wm", "0o0n", 1, 1, 1, 1);
        likely("wm", "0o0s", 1, 1, 1, 1);
    }

    private static void lostSitsOnTheOwnOneToo() {
        for (int seat = 0; seat < 5; seat++) {
            likely("wmawm", "2l", 0, seat, 1, 5);
        }
        likely("wmawm", "2o2l", 1, 2, 0, 1);
        likely("wmawm", "2o2l", 1, 4, 1, 4);
    }

    private static void plainOnAnyFreeOne() {
        likely("wmaw", "3o3o", 0, 3, 1, 1);
        likely("wmaw", "3o3o", 1, 3, 0, 1);
        for (int seat = 0; seat < 3; seat++) {
            likely("wmaw", "3o3o", 1, seat, 1, 3);
        }
    }

    private static void nearToTheRightAndRound() {
        likely("w;m", "0o0n", 1, 1, 1, 1);
        likely("ww;w", "2o2n", 1, 0, 1, 1);
        likely("ww;w", "2o2n", 1, 1, 0, 1);
        likely("www", "1o2o1n", 2, 0, 1, 1);
        likely("wwwwwwww", "7n7n", 1, 0, 1, 1);
        likely("wwwwwwww", "0n1n2n3n4n5n6n0n", 7, 7, 1, 1);
        likely("wwwwwwww", "1n2n3n4n5n6n7n1n", 7, 0, 1, 1);
        likely("wma", "0n", 0, 0, 1, 1);
    }

    private static void sortedWhileThereIsOneOfTheSort() {
        likely("wma;w", "0o0s", 1, 3, 1, 1);
        likely("wma;w", "0o0s", 1, 1, 0, 1);
        likely("wmm", "0o0s", 1, 1, 1, 2);
        likely("wmm", "0o0s", 1, 2, 1, 2);
        likely("wmaaa", "2o2s", 1, 4, 1, 2);
        likely("wmaaa", "2o3o4o4s", 3, 0, 1, 2);
        likely("wmaaa", "2s", 0, 2, 1, 1);
    }

    private static void ownOneOfAnotherToo() {
        LostTicket x = typed("wwwwwwww", "0o0o0o0o0o0o0o0o");
        EDGE.fraction("7: the first of all has it", what -> x.likely(0, 0, what), 1, 1);
        for (int p = 1; p < 8; p++) {
            int person = p;
            EDGE.fraction("7: the others never", what -> x.likely(person, 0, what), 0, 1);
            EDGE.fraction("7: but another alike", what -> x.likely(person, 7, what), 1, 7);
        }
    }

    // ---- 7

    private static void likelyOfEight() {
        likely("wwwwwwww", LOST_FIRST, 0, 7, 1, 8);
        likely("wwwwwwww", LOST_FIRST, 7, 7, 1, 2);
        likely("wwwwwwww", LOST_FIRST, 7, 0, 1, 2);
        likely("wwwwwwww", LOST_FIRST, 7, 6, 0, 1);
        likely("wwwwwwww", ALL_LOST, 7, 0, 1, 8);
        likely("wwwwwwww", ALL_LOST, 0, 7, 1, 8);
    }

    private static void likelyRefuses() {
        Supplier<LostTicket> some = () -> typed("wm;a", "0l1o");
        for (int one : new int[] {Integer.MIN_VALUE, -2, -1, 2, 3, 8, 32, Integer.MAX_VALUE}) {
            EDGE.refused("7: person " + one, some, x -> x.likely(one, 0, 0), BAD);
        }
        for (int one : new int[] {Integer.MIN_VALUE, -2, -1, 3, 4, 8, 32, Integer.MAX_VALUE}) {
            EDGE.refused("7: SEAT " + one, some, x -> x.likely(0, one, 0), BAD);
        }
        LostTicket eight = typed("wwwwwwww", LOST_FIRST);
        CHECK.due("7: a ninth", eight.likely(8, 0, 0), BAD);
        CHECK.due("7: a ninth", eight.likely(0, 8, 0), BAD);
        CHECK.due("7: nobody", typed("w", "").likely(0, 0, 0), BAD);
        CHECK.due("7: no SEATS", typed("", "0o").likely(0, 0, 0), BAD);
    }

    // ---- 8

    private static void taken(LostTicket x, int k, int seats, long above, long below) {
        EDGE.fraction("8: taken " + k + " " + seats, what -> x.taken(k, seats, what), above, below);
    }

    private static void takenBehindNone() {
        taken(new LostTicket(), 0, 0, 1, 1);
        taken(typed("www", ""), 0, 0, 1, 1);
        LostTicket x = typed("www", "0l1o");
        taken(x, 0, 0, 1, 1);
        taken(x, 0, 1, 0, 1);
        taken(x, 0, 7, 0, 1);
    }

    private static void takenBehindAll() {
        LostTicket x = typed("wwwwwwww", LOST_FIRST);
        taken(x, 8, 255, 1, 1);
        taken(x, 8, 254, 0, 1);
        taken(x, 7, 127, 1, 2);
        taken(x, 7, 254, 1, 2);
        taken(x, 1, 128, 1, 8);
        taken(x, 1, 1, 1, 8);
    }

    private static void takenOfAnotherSize() {
        LostTicket x = typed("www", "0l1o");
        taken(x, 1, 0, 0, 1);
        taken(x, 1, 3, 0, 1);
        taken(x, 2, 1, 0, 1);
        taken(x, 2, 7, 0, 1);
        taken(x, 2, 3, 1, 2);
        taken(x, 2, 5, 0, 1);
        taken(x, 2, 6, 1, 2);
    }

    private static void takenRefuses() {
        Supplier<LostTicket> some = () -> typed("wm;a", "0l1o");
        for (int k : new int[] {Integer.MIN_VALUE, -1, 3, 8, 9, Integer.MAX_VALUE}) {
            EDGE.refused("8: k " + k, some, x -> x.taken(k, 0, 0), BAD);
        }
        for (int seats : new int[] {Integer.MIN_VALUE, -1, 8, 9, 255, 256, 1 << 30, Integer.MAX_VALUE}) {
            EDGE.refused("8: seats " + seats, some, x -> x.taken(2, seats, 0), BAD);
        }
        CHECK.due("8: a bit too many of eight", typed("wwwwwwww", "").taken(0, 256, 0), BAD);
        CHECK.due("8: no SEATS", new LostTicket().taken(0, 1, 0), BAD);
        CHECK.due("8: nobody", typed("w", "").taken(1, 1, 0), BAD);
        CHECK.due("8: nine of eight", typed("wwwwwwww", LOST_FIRST).taken(9, 255, 0), BAD);
    }

    // ---- 9

    private static void wrong(LostTicket x, int k, long above, long below) {
        EDGE.fraction("9: wrong " + k, what -> x.wrong(k, what), above, below);
    }

    private static void wrongOfNobody() {
        for (LostTicket x : new LostTicket[] {new LostTicket(), typed("www", ""), typed("ww;", "0o")}) {
            wrong(x, LostTicket.NONE, 0, 1);
            wrong(x, 0, 1, 1);
            CHECK.due("9: one of nobody", x.wrong(1, 0), BAD);
        }
    }

    private static void wrongOfEight() {
        LostTicket x = typed("wwwwwwww", LOST_FIRST);
        wrong(x, LostTicket.NONE, 363, 140);
        wrong(x, 0, 1, 8);
        wrong(x, 1, 0, 1);
        wrong(x, 8, 1, 40320);
        x = typed("wwwwwwww", ALL_LOST);
        wrong(x, LostTicket.NONE, 7, 1);
        wrong(x, 0, 1, 40320);
        wrong(x, 1, 0, 1);
        wrong(x, 2, 1, 1440);
        wrong(x, 8, 2119, 5760);
        x = typed("wwwwwwww", "0o0o0o0o0o0o0o0o");
        wrong(x, LostTicket.NONE, 7, 1);
        wrong(x, 6, 0, 1);
        wrong(x, 7, 1, 1);
        wrong(x, 8, 0, 1);
        x = typed("ww", "0l");
        wrong(x, LostTicket.NONE, 1, 2);
        wrong(x, 0, 1, 2);
        wrong(x, 1, 1, 2);
    }

    private static void wrongRefuses() {
        Supplier<LostTicket> some = () -> typed("wm;a", "0l1o");
        for (int k : new int[] {Integer.MIN_VALUE, -3, -2, 3, 8, 9, Integer.MAX_VALUE}) {
            EDGE.refused("9: k " + k, some, x -> x.wrong(k, 0), BAD);
        }
        CHECK.due("9: nine of eight", typed("wwwwwwww", ALL_LOST).wrong(9, 0), BAD);
    }

    // ---- 10

    private static void left(LostTicket x, int seat, long above, long below) {
        EDGE.fraction("10: left " + seat, what -> x.left(seat, what), above, below);
    }

    private static void leftOfNobodyAndOfAll() {
        for (int seat = 0; seat < 8; seat++) {
            left(typed("wwwwwwww", ""), seat, 1, 1);
            left(typed("wwwwwwww", ALL_LOST), seat, 0, 1);
            left(typed("wwwwwwww", "0l1l2l"), seat, 5, 8);
            left(typed("wwwwwwww", "7o"), seat, seat == 7 ? 0 : 1, 1);
        }
        left(typed("wwwwwwww", "0l1o"), 0, 6, 7);
        left(typed("wwwwwwww", "0l1o"), 1, 0, 1);
    }

    private static void leftRefuses() {
        Supplier<LostTicket> some = () -> typed("wm;a", "0l1o");
        for (int seat : new int[] {Integer.MIN_VALUE, -1, 3, 7, 8, 32, Integer.MAX_VALUE}) {
            EDGE.refused("10: SEAT " + seat, some, x -> x.left(seat, 0), BAD);
        }
        CHECK.due("10: no SEATS", new LostTicket().left(0, 0), BAD);
        CHECK.due("10: a ninth of eight", typed("wwwwwwww", "").left(8, 0), BAD);
    }

    // ---- 11

    private static void looks(String seats, String people, long above, long below) {
        LostTicket x = typed(seats, people);
        EDGE.fraction("11: looks " + seats + " " + people, x::looks, above, below);
    }

    private static void looksOfNobodyAndOfOthers() {
        looks("", "", 0, 1);
        looks("www", "", 0, 1);
        looks("www", "0n", 0, 1);
        looks("www", "0o0o", 0, 1);
        looks("www", "0o0s", 0, 1);
        looks("www", "0l0l0l", 0, 1);
        looks("www", "0o0n", 1, 1);
    }

    private static void looksRound() {
        looks("ww;w", "2o2n", 1, 1);
        looks("www", "1o2o1n", 2, 1);
        looks("wwwwwwww", "7n7n7n7n7n7n7n7n", 28, 1);
        looks("wwwwwwww", "0n0n0n0n0n0n0n0n", 28, 1);
        looks("wwwwwwww", "1n2n3n4n5n6n7n1n", 7, 1);
        looks("ww", "0l1n", 1, 2);
    }

    private static void looksRefuses() {
        for (int what : FAR) {
            EDGE.refused("11: what " + what, () -> typed("wm;a", "0l1o"), x -> x.looks(what), BAD);
        }
    }

    // ---- 12, 13

    private static void sitting(LostTicket x, int cannot, long above, long below) {
        CHECK.due("12: judged", x.judged(0), cannot);
        EDGE.fraction("13: sitting", what -> x.sitting(0, what), above, below);
    }

    private static void judgedNobody() {
        sitting(laid("", ""), LostTicket.NONE, 1, 1);
        sitting(laid("www", ""), LostTicket.NONE, 1, 1);
        sitting(laid("www", "", 99, -1), LostTicket.NONE, 1, 1);
        sitting(laid("ww;", "0o", 5), LostTicket.NONE, 1, 1);
    }

    private static void judgedFirstWhoCannot() {
        sitting(laid("www", "0l1o", 0, 1, 99), LostTicket.NONE, 1, 3);
        sitting(laid("www", "0l1o", 0, 2), 1, 0, 1);
        sitting(laid("www", "0l1o", 1, 1), 1, 0, 1);
        sitting(laid("www", "0l1o", 1, 2), LostTicket.NONE, 1, 6);
        sitting(laid("www", "0o1o2o", 1, 0, 1), 0, 0, 1);
        sitting(laid("www", "0o1o2o", 0, 1, 1), 2, 0, 1);
        sitting(laid("www", "2o2n", 2, 0), LostTicket.NONE, 1, 1);
        sitting(laid("www", "2o2n", 2, 1), 1, 0, 1);
        sitting(laid("wmaw", "0o0s", 0, 3), LostTicket.NONE, 1, 1);
        sitting(laid("wmaw", "0o0s", 0, 1), 1, 0, 1);
        sitting(laid("wma", "0o0s", 0, 1), LostTicket.NONE, 1, 2);
    }

    private static void judgedItemsThatAreNoSeats() {
        for (int item : new int[] {Integer.MIN_VALUE, -32, -1, 3, 7, 8, 31, 32, 33, 64, Integer.MAX_VALUE}) {
            sitting(laid("www", "0l1o", item, 1), 0, 0, 1);
            sitting(laid("www", "0l1o", 0, item), 1, 0, 1);
            sitting(laid("www", "0l1o", 0, 1, item), LostTicket.NONE, 1, 3);
        }
        sitting(laid("wwwwwwww", "0l", 7), LostTicket.NONE, 1, 8);
        sitting(laid("wwwwwwww", "0l", 8), 0, 0, 1);
    }

    private static LostTicket short1() {
        return laid("www", "0l1o", 0);
    }

    private static void judgedAndSittingRefuse() {
        for (int sheet : new int[] {Integer.MIN_VALUE, -1, 4, 5, Integer.MAX_VALUE}) {
            EDGE.refused("12: SHEET " + sheet, ChanceEdgesTest::short1, x -> x.judged(sheet), Edge.BAD);
            EDGE.refused("13: SHEET " + sheet, ChanceEdgesTest::short1, x -> x.sitting(sheet, 0), BAD);
        }
        for (int what : new int[] {Integer.MIN_VALUE, -1, 2, Integer.MAX_VALUE}) {
            EDGE.refused("13: BAD ahead of NULL", ChanceEdgesTest::short1, x -> x.sitting(3, what), BAD);
            EDGE.refused("13: BAD ahead of NOT", ChanceEdgesTest::short1, x -> x.sitting(0, what), BAD);
        }
        for (int s = 1; s < 4; s++) {
            int sheet = s;
            EDGE.found("12: LOST", ChanceEdgesTest::short1, x -> x.judged(sheet), Edge.NULL, 1);
            for (int w = 0; w <= 1; w++) {
                int what = w;
                EDGE.found("13: LOST", ChanceEdgesTest::short1, x -> x.sitting(sheet, what),
                        Edge.asLong(Edge.NULL), 1);
            }
        }
        EDGE.found("12: LOST, with nobody", LostTicket::new, x -> x.judged(0), Edge.NULL, 1);
        EDGE.refused("12: fewer items", ChanceEdgesTest::short1, x -> x.judged(0), Edge.NOT);
        EDGE.refused("13: fewer items", ChanceEdgesTest::short1, x -> x.sitting(0, 0),
                Edge.asLong(Edge.NOT));
        EDGE.refused("13: fewer items", ChanceEdgesTest::short1, x -> x.sitting(0, 1),
                Edge.asLong(Edge.NOT));
        EDGE.refused("12: no items", () -> laid("w", "0o"), x -> x.judged(0), Edge.NOT);
        EDGE.refused("12: one too few, though the first cannot", () -> laid("ww", "0o1o", 1),
                x -> x.judged(0), Edge.NOT);
    }

    private static void sittingOfEight() {
        sitting(laid("wwwwwwww", ALL_LOST, 7, 6, 5, 4, 3, 2, 1, 0), LostTicket.NONE, 1, 40320);
        sitting(laid("wwwwwwww", LOST_FIRST, 1, 2, 3, 4, 5, 6, 7, 0), LostTicket.NONE, 1, 40320);
        sitting(laid("wwwwwwww", LOST_FIRST, 0, 1, 2, 3, 4, 5, 6, 7), LostTicket.NONE, 1, 8);
        sitting(laid("wwwwwwww", LOST_FIRST, 0, 1, 2, 3, 4, 5, 6, 6), 7, 0, 1);
        EDGE.refused("12: seven items of eight", () -> laid("wwwwwwww", ALL_LOST, 0, 1, 2, 3, 4, 5, 6),
                x -> x.judged(0), Edge.NOT);
    }
}
