/** Wrong inputs of promises 7 to 16, 25 and 31: what is refused, in which order, and changes nothing. */
public final class RefusalsTest {
    private static final Check CHECK = new Check();
    private static final long BAD = Long.MIN_VALUE + 2;
    private static final int[] FAR = {Integer.MIN_VALUE, -3, -2, 9, 32, 33, Integer.MAX_VALUE};

    public static void main(String[] args) {
        LostTicket x = TextsTest.typed("wm;a", "0l1s1n");
        x.seen(0, 1);
        long digest = x.digest();
        chances(x);
        sittings(x);
        others(x);
        CHECK.due("nothing changed", x.digest(), digest);
        fullBeforeBeyond();
        empty();
        anything();
        CHECK.end("RefusalsTest");
    }

    private static void chances(LostTicket x) {
        for (int far : FAR) {
            CHECK.due("likely", x.likely(far, 0, 0), BAD);
            CHECK.due("likely", x.likely(0, far, 0), BAD);
            CHECK.due("likely", x.likely(0, 0, far), BAD);
            CHECK.due("taken", x.taken(far, 0, 0), BAD);
            CHECK.due("taken", x.taken(0, 0, far), BAD);
            CHECK.due("wrong", x.wrong(far, 0), BAD);
            CHECK.due("wrong", x.wrong(0, far), BAD);
            CHECK.due("left", x.left(far, 0), BAD);
            CHECK.due("left", x.left(0, far), BAD);
            CHECK.due("looks", x.looks(far), BAD);
            CHECK.due("best", x.best(far), BAD);
        }
        for (int one : new int[] {-1, 3}) {
            CHECK.due("likely", x.likely(one, 0, 0), BAD);
            CHECK.due("likely", x.likely(0, one, 0), BAD);
            CHECK.due("left", x.left(one, 0), BAD);
        }
        for (int what : new int[] {-1, 2}) {
            CHECK.due("likely", x.likely(0, 0, what), BAD);
            CHECK.due("wrong", x.wrong(-1, what), BAD);
            CHECK.due("best", x.best(what), BAD);
        }
        CHECK.due("wrong", x.wrong(4, 0), BAD);
        CHECK.due("taken", x.taken(-1, 0, 0), BAD);
        CHECK.due("taken", x.taken(4, 7, 0), BAD);
        CHECK.due("taken", x.taken(3, 8, 0), BAD);
        CHECK.due("taken", x.taken(3, -1, 0), BAD);
        CHECK.due("taken", x.taken(3, Integer.MIN_VALUE, 0), BAD);
        CHECK.due("taken, too few", x.taken(3, 3, 0), 0);
        CHECK.due("taken, too few", x.taken(3, 3, 1), 1);
    }

    private static void sittings(LostTicket x) {
        CHECK.due("no finding yet", x.count(8), 0);
        for (int far : FAR) {
            CHECK.due("judged", x.judged(far), -2);
            CHECK.due("sitting", x.sitting(far, 0), BAD);
            CHECK.due("BAD ahead of NULL", x.sitting(0, far), BAD);
            CHECK.due("back", x.back(far, 0), -2);
            CHECK.due("write", x.write(0, far), -2);
        }
        CHECK.due("no finding by BAD", x.count(8), 0);
        CHECK.due("judged NULL", x.judged(3), -11);
        CHECK.due("finding", x.count(8), 1);
        CHECK.due("sitting NULL", x.sitting(3, 1), Long.MIN_VALUE + 11);
        x.sheet(3, 0, 2);
        CHECK.due("judged NOT", x.judged(3), -3);
        CHECK.due("sitting NOT", x.sitting(3, 1), Long.MIN_VALUE + 3);
        CHECK.due("BAD ahead of NOT", x.sitting(3, 2), BAD);
        x.sheet(3, 0, 3);
        CHECK.due("two on one", x.judged(3), 1);
        CHECK.due("cannot", x.sitting(3, 0), 0);
        CHECK.due("cannot", x.sitting(3, 1), 1);
        x.lay(3, 0, 0, -1);
        CHECK.due("on no seat", x.judged(3), 0);
        x.lay(3, 0, 0, 32);
        CHECK.due("on no seat", x.judged(3), 0);
        CHECK.due("on no seat", x.sitting(3, 0), 0);
        x.lose(3);
    }

    private static void others(LostTicket x) {
        for (int far : FAR) {
            CHECK.due("order", x.order(far), -2);
            CHECK.due("evening", x.evening(1, far), -2);
            CHECK.due("ask", x.ask(far), -2);
            CHECK.due("share", x.share(far, 0), BAD);
        }
        CHECK.due("order beyond", x.order(3), -2);
        CHECK.due("evening", x.evening(1, 3), -2);
    }

    private static void fullBeforeBeyond() {
        LostTicket x = TextsTest.typed("wwwwwww", "0o0o0o0o0o0o");
        CHECK.due("six", x.order(5), 5);
        CHECK.due("beyond", x.order(6), -2);
        TextsTest.type(x, 1, "0o");
        CHECK.due("seven", x.order(0), -4);
        CHECK.due("FULL ahead of beyond", x.order(Integer.MAX_VALUE), -4);
        CHECK.due("BAD ahead of FULL", x.order(-1), -2);
        CHECK.due("best", x.best(1), Long.MIN_VALUE + 4);
        CHECK.due("BAD ahead of FULL", x.best(2), BAD);
    }

    private static void empty() {
        LostTicket x = TextsTest.typed("ww", "");
        CHECK.due("nobody sits wrong", x.wrong(0, 0), 1);
        CHECK.due("nobody sits", x.taken(0, 0, 0), 1);
        CHECK.due("all is left", x.left(1, 0), 1);
        CHECK.due("best of none", x.best(1), 1);
        CHECK.due("wrong by 1", x.wrong(-1, 1), 1);
        CHECK.due("evening", x.evening(5, -1), 0);
        CHECK.due("evening", x.evening(5, 0), -2);
    }

    /** No call throws, whatever comes in. */
    private static void anything() {
        int[] all = {Integer.MIN_VALUE, -11, -3, -2, -1, 0, 1, 2, 3, 5, 7, 8, 9, 31, 32, 60, 61, 255,
            256, Integer.MAX_VALUE};
        String[] seats = {"", "w", "wma;wma;ma", "w;"};
        for (String text : seats) {
            LostTicket x = TextsTest.typed(text, text.length() > 5 ? "0l0s0n7o" : "");
            x.sheet(0, 0, 9);
            for (int a : all) {
                for (int b : all) {
                    for (int c : all) {
                        threeNumbers(x, a, b, c);
                    }
                }
            }
            CHECK.holds("still there", x.digest() == x.digest());
        }
    }

    private static void threeNumbers(LostTicket x, int a, int b, int c) {
        x.fault(a);
        x.seat(a, b);
        x.person(a, b);
        x.likely(a, b, c);
        x.taken(a, b, c);
        x.wrong(a, b);
        x.left(a, b);
        x.looks(a);
        x.judged(a);
        x.sitting(a, b);
        x.order(a);
        x.best(a);
        x.back(a, b);
        x.seen(a, b);
        x.read(a);
        x.share(a, b);
        x.ask(a);
        x.turned(a, b, c);
        x.evening(a, b);
        x.lay(a, b, c, c);
        x.get(a, b, c);
        x.copy(0, a, 0, b, c);
        x.copy(a, b, c, a, b);
        x.write(a, b);
        x.count(a);
    }
}
