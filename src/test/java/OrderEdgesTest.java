import java.util.function.Supplier;

/** Promises 14 to 16: each sentence that names an edge of ORDER and BACK, by itself, reckoned by hand. */
public final class OrderEdgesTest {
    private static final Check CHECK = new Check();
    private static final Edge EDGE = new Edge(CHECK);
    private static final long BAD = Edge.asLong(Edge.BAD);
    private static final String EIGHT = "wwwwwwww";

    public static void main(String[] args) {
        orderOfNobody();
        orderOfOne();
        orderOfSix();
        ofLikeOnesTheLeast();
        theLeastMeanAheadOfTheLeastRow();
        sevenAndEightAreFull();
        orderRefuses();
        bestRefuses();
        backOfNone();
        backAllRight();
        backOfTwo();
        backOfEight();
        backOfUnlikelySittings();
        backLooksAtAsManyItemsAsPeople();
        backNot();
        backRefuses();
        CHECK.end("OrderEdgesTest");
    }

    private static LostTicket typed(String seats, String people) {
        return TextsTest.typed(seats, people);
    }

    // ---- 14, 15

    private static void order(String seats, String people, int[] row, long above, long below) {
        LostTicket x = typed(seats, people);
        String name = seats + " " + people;
        for (int i = 0; i < row.length; i++) {
            CHECK.due("14: order " + i + " of " + name, x.order(i), row[i]);
        }
        CHECK.due("14: beyond, of " + name, x.order(row.length), Edge.BAD);
        EDGE.fraction("15: best of " + name, x::best, above, below);
    }

    private static void orderOfNobody() {
        order("", "", new int[] {}, 0, 1);
        order("www", "", new int[] {}, 0, 1);
        order("www;", "0o1o", new int[] {}, 0, 1);
        order("www", "0o1", new int[] {}, 0, 1);
    }

    private static void orderOfOne() {
        order("w", "0o", new int[] {0}, 0, 1);
        order("w", "0l", new int[] {0}, 0, 1);
        order("wwwww", "3l", new int[] {0}, 4, 5);
    }

    private static void orderOfSix() {
        order("wwwwww", "0o1o2o3o4o5o", new int[] {0, 1, 2, 3, 4, 5}, 0, 1);
        order("wwwwww", "0l1o2o3o4o5o", new int[] {1, 2, 3, 4, 5, 0}, 0, 1);
        order("wwwwww", "0l1l2l3l4l5l", new int[] {0, 1, 2, 3, 4, 5}, 5, 1);
        order(EIGHT, "0l1l2l3l4l5l", new int[] {0, 1, 2, 3, 4, 5}, 21, 4);
        order(EIGHT, "7l7o6o5o4o3o", new int[] {1, 2, 3, 4, 5, 0}, 1, 1);
    }

    private static void ofLikeOnesTheLeast() {
        order("ww", "1o0o", new int[] {0, 1}, 0, 1);
        order("www", "0o0o0o", new int[] {0, 1, 2}, 2, 1);
        order("www", "2n1s0o", new int[] {0, 1, 2}, 0, 1);
        order("www", "0o0n", new int[] {0, 1}, 1, 1);
    }

    // In the least row the second near one takes 1 from 1o, too: two would sit wrong.
    private static void theLeastMeanAheadOfTheLeastRow() {
        order("www", "0n0n1o", new int[] {0, 2, 1}, 1, 1);
        order("wwww", "0l1o", new int[] {1, 0}, 2, 3);
        order("wwww", "0s0l1o", new int[] {0, 2, 1}, 1, 1);
    }

    private static void sevenAndEightAreFull() {
        for (String people : new String[] {"0o1o2o3o4o5o6o", "0o1o2o3o4o5o6o7o"}) {
            Supplier<LostTicket> many = () -> typed(EIGHT, people);
            for (int i : new int[] {0, 1, 5, 6, 7, 8, 9, Integer.MAX_VALUE}) {
                EDGE.refused("14: FULL, ahead of beyond " + i, many, x -> x.order(i), Edge.FULL);
            }
            for (int i : new int[] {-1, -2, Integer.MIN_VALUE}) {
                EDGE.refused("14: BAD ahead of FULL " + i, many, x -> x.order(i), Edge.BAD);
            }
            for (int w = 0; w <= 1; w++) {
                int what = w;
                EDGE.refused("15: FULL", many, x -> x.best(what), Edge.asLong(Edge.FULL));
            }
            for (int what : new int[] {-1, 2}) {
                EDGE.refused("15: BAD ahead of FULL", many, x -> x.best(what), BAD);
            }
        }
        LostTicket x = typed(EIGHT, "0o1o2o3o4o5o6o");
        x.wipe(1);
        TextsTest.type(x, 1, "0l1o2o3o4o5o");
        CHECK.due("14: six again", x.order(0), 1);
        CHECK.due("15: six again", x.best(0), 2);
        CHECK.due("15: six again", x.best(1), 3);
    }

    private static void orderRefuses() {
        Supplier<LostTicket> two = () -> typed("wm;a", "0l1o");
        for (int i : new int[] {Integer.MIN_VALUE, -1, 2, 3, 6, 7, Integer.MAX_VALUE}) {
            EDGE.refused("14: order " + i, two, x -> x.order(i), Edge.BAD);
        }
        CHECK.due("14: six of six", typed(EIGHT, "0o1o2o3o4o5o").order(6), Edge.BAD);
    }

    private static void bestRefuses() {
        for (int what : new int[] {Integer.MIN_VALUE, -1, 2, 3, Integer.MAX_VALUE}) {
            EDGE.refused("15: best " + what, () -> typed("wm;a", "0l1o"), x -> x.best(what), BAD);
        }
    }

    // ---- 16

    private static LostTicket laid(String seats, String people, int... items) {
        LostTicket x = typed(seats, people);
        x.sheet(0, 2, items.length);
        for (int i = 0; i < items.length; i++) {
            x.lay(0, 2, i, items[i]);
        }
        return x;
    }

    private static void back(LostTicket x, int rings, int changes, int rounds) {
        CHECK.due("16: RINGS", x.back(0, 0), rings);
        CHECK.due("16: CHANGES", x.back(0, 1), changes);
        CHECK.due("16: ROUNDS", x.back(0, 2), rounds);
    }

    private static void backOfNone() {
        back(laid("", ""), 0, 0, 0);
        back(laid("", "", 5, -1), 0, 0, 0);
        back(laid("ww;", "0o", 5), 0, 0, 0);
    }

    private static void backAllRight() {
        back(laid("w", "0l", 0), 0, 0, 0);
        back(laid("wma", "2o0o1o", 2, 0, 1), 0, 0, 0);
        back(laid(EIGHT, "7o6o5o4o3o2o1o0o", 7, 6, 5, 4, 3, 2, 1, 0), 0, 0, 0);
    }

    private static void backOfTwo() {
        back(laid("ww", "0l1o", 1, 0), 1, 1, 1);
        back(laid("www", "0l1o2o", 2, 1, 0), 1, 1, 1);
        back(laid("www", "0l1o2o", 1, 2, 0), 1, 2, 2);
        back(laid("wwww", "0l1l2l3l", 1, 0, 3, 2), 2, 2, 1);
    }

    private static void backOfEight() {
        String all = "0l1l2l3l4l5l6l7l";
        back(laid(EIGHT, all, 7, 0, 1, 2, 3, 4, 5, 6), 1, 7, 2);
        back(laid(EIGHT, all, 1, 0, 3, 2, 5, 4, 7, 6), 4, 4, 1);
        back(laid(EIGHT, all, 1, 2, 0, 4, 5, 3, 7, 6), 3, 5, 2);
        back(laid(EIGHT, all, 1, 2, 3, 0, 5, 6, 7, 4), 2, 6, 2);
        back(laid(EIGHT, all, 7, 1, 2, 3, 4, 5, 6, 0), 1, 1, 1);
    }

    /** Whether they can have come to sit so is not asked. */
    private static void backOfUnlikelySittings() {
        back(laid("www", "0o1o2o", 1, 2, 0), 1, 2, 2);
        back(laid("ww", "0n1s", 1, 0), 1, 1, 1);
    }

    private static void backLooksAtAsManyItemsAsPeople() {
        back(laid("ww", "0l1o", 1, 0, 0, 99, -1), 1, 1, 1);
    }

    private static void not(String name, String seats, String people, int... items) {
        for (int w = 0; w <= 2; w++) {
            int what = w;
            EDGE.refused("16: NOT, " + name, () -> laid(seats, people, items), x -> x.back(0, what),
                    Edge.NOT);
        }
    }

    private static void backNot() {
        not("fewer items", "www", "0l1o2o", 0, 1);
        not("no items", "w", "0o");
        not("two on one SEAT", "www", "0l1o2o", 0, 1, 1);
        not("fewer PEOPLE than SEATS", "www", "0l1o", 0, 1, 2);
        not("nobody, but SEATS", "www", "", 0, 1, 2);
        not("nobody's SEAT", "www", "0l1o1o", 0, 1, 2);
        for (int item : new int[] {Integer.MIN_VALUE, -1, 3, 8, 32, 34, Integer.MAX_VALUE}) {
            not("no such SEAT " + item, "www", "0l1o2o", 0, 1, item);
            not("no such SEAT " + item, "www", "0l1o2o", item, 1, 2);
        }
        not("nine", EIGHT, "0l1o2o3o4o5o6o7o", 0, 1, 2, 3, 4, 5, 6, 8);
    }

    private static void backRefuses() {
        Supplier<LostTicket> fewer = () -> laid("www", "0l1o2o", 0, 1);
        for (int sheet : new int[] {Integer.MIN_VALUE, -1, 4, 5, Integer.MAX_VALUE}) {
            EDGE.refused("16: SHEET " + sheet, fewer, x -> x.back(sheet, 0), Edge.BAD);
        }
        for (int what : new int[] {Integer.MIN_VALUE, -1, 3, 4, Integer.MAX_VALUE}) {
            EDGE.refused("16: BAD ahead of NULL", fewer, x -> x.back(3, what), Edge.BAD);
            EDGE.refused("16: BAD ahead of NOT", fewer, x -> x.back(0, what), Edge.BAD);
        }
        for (int s = 1; s <= 3; s++) {
            int sheet = s;
            EDGE.found("16: LOST", fewer, x -> x.back(sheet, 2), Edge.NULL, 1);
        }
        EDGE.found("16: LOST, with nobody", LostTicket::new, x -> x.back(0, 0), Edge.NULL, 1);
    }
}
