/** Promises 17 to 23: what is SEEN, and the edges of what follows from it. */
public final class SeenTest {
    private static final Check CHECK = new Check();
    private static final long LEAST = Long.MIN_VALUE;

    public static void main(String[] args) {
        tellingAndForgetting();
        readingSheets();
        neverSo();
        asking();
        CHECK.end("SeenTest");
    }

    private static void tellingAndForgetting() {
        LostTicket x = new LostTicket();
        int[][] bad = {{-2, 0}, {8, 0}, {0, -1}, {0, 8}, {-1, 8}, {-1, -1}, {Integer.MIN_VALUE, 0},
            {0, Integer.MAX_VALUE}};
        for (int[] b : bad) {
            CHECK.due("seen BAD", x.seen(b[0], b[1]), LostTicket.BAD);
        }
        for (int i = 0; i < 8; i++) {
            CHECK.due("seen", x.seen(i - 1, i), i + 1);
        }
        CHECK.due("ninth", x.seen(0, 0), LostTicket.FULL);
        CHECK.due("ninth, wrong", x.seen(0, 8), LostTicket.BAD);
        CHECK.due("count", x.count(5), 8);
        x.wipe(0);
        CHECK.due("texts leave it", x.count(5), 8);
        CHECK.due("forget", x.forget(), 8);
        CHECK.due("forget again", x.forget(), 0);
        CHECK.due("room again", x.seen(7, 7), 1);
    }

    private static void readingSheets() {
        LostTicket x = new LostTicket();
        CHECK.due("read BAD", x.read(-1), LostTicket.BAD);
        CHECK.due("read BAD", x.read(4), LostTicket.BAD);
        CHECK.due("read NULL", x.read(3), -11);
        CHECK.due("finding", x.count(8), 1);
        x.sheet(0, 0, 0);
        CHECK.due("read nothing", x.read(0), 0);
        x.sheet(0, 0, 1);
        CHECK.due("read no whole one", x.read(0), 0);
        x.sheet(0, 2, 5);
        CHECK.due("read two", x.read(0), 2);
        x.lay(0, 2, 2, -2);
        CHECK.due("read up to a wrong one", x.read(0), 1);
        CHECK.due("seen", x.count(5), 3);
        x.sheet(0, 2, 60);
        CHECK.due("read while there is room", x.read(0), 5);
        CHECK.due("seen", x.count(5), 8);
        CHECK.due("no room", x.read(0), 0);
        x = TextsTest.typed("www", "0o1o2o");
        x.sheet(1, 1, 4);
        x.lay(1, 1, 0, 1);
        x.lay(1, 1, 1, 0);
        x.lay(1, 1, 2, 0);
        x.lay(1, 1, 3, 1);
        CHECK.due("before", x.losers(), 7);
        CHECK.due("read", x.read(1), 2);
        CHECK.due("behind", x.losers(), 1);
    }

    private static void neverSo() {
        LostTicket x = TextsTest.typed("www", "0o1o");
        CHECK.due("all", x.losers(), 3);
        int[][] never = {{2, 2}, {0, 3}, {-1, 3}, {7, 7}};
        for (int[] n : never) {
            x.forget();
            x.seen(n[0], n[1]);
            CHECK.due("never so", x.losers(), 0);
            CHECK.due("never so", x.likeliest(), LostTicket.NONE);
            CHECK.due("never so", x.share(0, 0), LEAST + 3);
            CHECK.due("never so", x.ask(0), LostTicket.NOT);
        }
        x.forget();
        x.seen(-1, 0);
        CHECK.due("free", x.losers(), 1);
        x.seen(0, 0);
        CHECK.due("free and taken", x.losers(), 0);
        x.forget();
        x.seen(0, 1);
        x.seen(0, 2);
        CHECK.due("in two places", x.losers(), 0);
        x.forget();
        x.seen(0, 1);
        x.seen(0, 1);
        CHECK.due("told twice", x.losers(), 1);
        CHECK.due("sure", x.share(0, 0), 1);
        CHECK.due("not the other", x.share(1, 0), 0);
        CHECK.due("not the other", x.share(1, 1), 1);
        CHECK.due("share BAD", x.share(2, 0), LEAST + 2);
        CHECK.due("share BAD", x.share(-1, 0), LEAST + 2);
        CHECK.due("share BAD", x.share(0, 2), LEAST + 2);
        CHECK.due("share BAD", x.share(0, -1), LEAST + 2);
        x = TextsTest.typed("www", "0l1o2n");
        CHECK.due("more than is told", x.losers(), 2);
        CHECK.due("share BAD", x.share(0, 0), LEAST + 2);
        CHECK.due("share BAD", x.share(2, 0), LEAST + 2);
        CHECK.due("likeliest of one", x.likeliest(), 1);
    }

    private static void asking() {
        LostTicket x = TextsTest.typed("www", "0o1o2o");
        CHECK.due("ask BAD", x.ask(-1), LostTicket.BAD);
        CHECK.due("ask BAD", x.ask(2), LostTicket.BAD);
        CHECK.due("of like ones the least", x.likeliest(), 0);
        x.seen(0, 0);
        x.seen(1, 1);
        CHECK.due("whom", x.ask(0), 2);
        CHECK.due("how many", x.ask(1), 3);
        x.seen(2, 2);
        CHECK.due("nobody to ask", x.ask(0), LostTicket.NOT);
        CHECK.due("nobody to ask", x.ask(1), LostTicket.NOT);
        CHECK.due("though there are some", x.losers(), 7);
        x = TextsTest.typed("wwww;wwww", "0o1o2o3o4o5o6o7o");
        CHECK.due("all eight", x.losers(), 255);
        CHECK.due("whom of eight", x.ask(0), 0);
        CHECK.due("all may have sat right", x.ask(1), 8);
    }
}
