import java.util.function.Supplier;

/** Promises 17 to 23: each sentence that names an edge of what was SEEN, by itself, reckoned by hand. */
public final class LoserEdgesTest {
    private static final Check CHECK = new Check();
    private static final Edge EDGE = new Edge(CHECK);
    private static final long BAD = Edge.asLong(Edge.BAD);
    private static final long NOT = Edge.asLong(Edge.NOT);
    private static final String THREE = "0o1o2o";

    public static void main(String[] args) {
        seenTakesEachPersonAndSeat();
        seenEightAtMost();
        seenRefuses();
        readWholePairs();
        readAsLongAsEachMayBe();
        readWhileThereIsRoom();
        readEachForm();
        readRefuses();
        forgetTellsHowMany();
        losersOfNobody();
        losersArePlain();
        losersMoreThanIsTold();
        neverSoWhoIsNotThere();
        neverSoTwoOnOneSeat();
        freeAtLast();
        seenStaysWhenTextsChange();
        shareOfAll();
        shareOfNone();
        shareRefuses();
        likeliestOfLikeOnes();
        askWhoWasNotSeen();
        askTheFewestInTheWorstCase();
        askRefuses();
        CHECK.end("LoserEdgesTest");
    }

    private static LostTicket typed(String seats, String people) {
        return TextsTest.typed(seats, people);
    }

    /** pairs: person, SEAT. */
    private static LostTicket seen(String seats, String people, int... pairs) {
        LostTicket x = typed(seats, people);
        for (int i = 0; i + 1 < pairs.length; i += 2) {
            x.seen(pairs[i], pairs[i + 1]);
        }
        return x;
    }

    private static LostTicket fullOfSeen() {
        return seen("www", THREE, 0, 0, 0, 0, 0, 0, 0, 0, 0, 0, 0, 0, 0, 0, -1, 7);
    }

    private static LostTicket sheet(LostTicket x, int form, int... items) {
        x.sheet(0, form, items.length);
        for (int i = 0; i < items.length; i++) {
            x.lay(0, form, i, items[i]);
        }
        return x;
    }

    // ---- 17

    private static void seenTakesEachPersonAndSeat() {
        for (int person = -1; person <= 7; person++) {
            for (int seat = 0; seat <= 7; seat++) {
                CHECK.due("17: there or not", new LostTicket().seen(person, seat), 1);
                CHECK.due("17: there or not", seen("www", THREE, 0, 0).seen(person, seat), 2);
            }
        }
    }

    private static void seenEightAtMost() {
        LostTicket x = new LostTicket();
        for (int i = 1; i <= 8; i++) {
            CHECK.due("17: how many, the same again, too", x.seen(3, 3), i);
        }
        CHECK.due("17: a ninth", x.seen(3, 3), Edge.FULL);
        CHECK.due("17: still eight", x.count(5), 8);
        x.forget();
        CHECK.due("17: room again", x.seen(3, 3), 1);
    }

    private static void seenRefuses() {
        Supplier<LostTicket> one = () -> seen("www", THREE, 1, 2);
        for (int person : new int[] {Integer.MIN_VALUE, -3, -2, 8, 9, Integer.MAX_VALUE}) {
            EDGE.refused("17: person " + person, one, x -> x.seen(person, 0), Edge.BAD);
            EDGE.refused("17: BAD ahead of FULL", LoserEdgesTest::fullOfSeen, x -> x.seen(person, 0),
                    Edge.BAD);
        }
        for (int seat : new int[] {Integer.MIN_VALUE, -2, -1, 8, 9, Integer.MAX_VALUE}) {
            EDGE.refused("17: SEAT " + seat, one, x -> x.seen(0, seat), Edge.BAD);
            EDGE.refused("17: free SEAT " + seat, one, x -> x.seen(LostTicket.NONE, seat), Edge.BAD);
            EDGE.refused("17: BAD ahead of FULL", LoserEdgesTest::fullOfSeen, x -> x.seen(0, seat),
                    Edge.BAD);
        }
        EDGE.refused("17: FULL", LoserEdgesTest::fullOfSeen, x -> x.seen(0, 0), Edge.FULL);
        EDGE.refused("17: FULL", LoserEdgesTest::fullOfSeen, x -> x.seen(LostTicket.NONE, 0), Edge.FULL);
    }

    // ---- 18

    private static void read(String name, LostTicket x, int came, int all) {
        CHECK.due("18: " + name, x.read(0), came);
        CHECK.due("18: " + name + ", SEEN", x.count(5), all);
    }

    private static void readWholePairs() {
        read("no items", sheet(new LostTicket(), 0), 0, 0);
        read("half a pair", sheet(new LostTicket(), 0, 1), 0, 0);
        read("one", sheet(new LostTicket(), 0, 1, 1), 1, 1);
        read("one and a half", sheet(new LostTicket(), 0, 1, 1, 2), 1, 1);
        read("two", sheet(new LostTicket(), 0, 1, 1, 2, 2), 2, 2);
        read("two more", sheet(seen("www", THREE, 1, 1), 0, 1, 1, 2, 2), 2, 3);
    }

    private static void readAsLongAsEachMayBe() {
        read("the edges", sheet(new LostTicket(), 2, -1, 0, 0, 0, 7, 7, -1, 7), 4, 4);
        int[][] wrong = {{-2, 0}, {8, 0}, {0, -1}, {0, 8}, {-1, -1}, {-1, 8},
            {Integer.MIN_VALUE, 0}, {0, Integer.MAX_VALUE}};
        for (int[] w : wrong) {
            read("a wrong one first", sheet(new LostTicket(), 2, w[0], w[1], 1, 1), 0, 0);
            read("a wrong one second", sheet(new LostTicket(), 2, 1, 1, w[0], w[1], 2, 2), 1, 1);
        }
        LostTicket x = sheet(typed("www", THREE), 2, 1, 2, 9, 9, 0, 2);
        x.read(0);
        CHECK.due("18: what came is SEEN, what did not is not", x.losers(), 3);
    }

    private static void readWhileThereIsRoom() {
        int[] nine = {1, 1, 1, 1, 1, 1, 1, 1, 1, 1, 1, 1, 1, 1, 1, 1, 1, 1};
        read("nine", sheet(new LostTicket(), 0, nine), 8, 8);
        read("a seventh and eighth", sheet(seen("", "", 0, 0, 0, 0, 0, 0, 0, 0, 0, 0, 0, 0), 0, nine), 2, 8);
        read("no room", sheet(fullOfSeen(), 0, 1, 1), 0, 8);
        read("no room for a wrong one", sheet(fullOfSeen(), 0, 9, 9), 0, 8);
        LostTicket x = new LostTicket();
        x.sheet(0, 1, 60);
        read("a whole SHEET", x, 8, 8);
    }

    private static void readEachForm() {
        for (int form = 0; form <= 2; form++) {
            LostTicket x = sheet(typed("www", "0o1o"), form, 1, 0, -1, 1);
            read("FORM " + form, x, 2, 2);
            CHECK.due("18: two SEEN by FORM " + form, x.losers(), 0);
        }
        read("a byte 255 is NONE", sheet(new LostTicket(), 0, 255, 0), 1, 1);
        read("a short 255 is nobody", sheet(new LostTicket(), 1, 255, 0), 0, 0);
        read("a short 65535 is NONE", sheet(new LostTicket(), 1, 65535, 0), 1, 1);
        LostTicket x = sheet(new LostTicket(), 0, 1, 1);
        x.read(0);
        CHECK.due("18: the SHEET stays", x.lose(0), 2);
    }

    private static void readRefuses() {
        Supplier<LostTicket> some = () -> sheet(seen("www", THREE, 1, 2), 0, 1, 1);
        for (int s : new int[] {Integer.MIN_VALUE, -1, 4, 5, Integer.MAX_VALUE}) {
            EDGE.refused("18: SHEET " + s, some, x -> x.read(s), Edge.BAD);
        }
        for (int s = 1; s <= 3; s++) {
            int lost = s;
            EDGE.found("18: LOST", some, x -> x.read(lost), Edge.NULL, 1);
            EDGE.found("18: LOST, with no room", LoserEdgesTest::fullOfSeen, x -> x.read(lost), Edge.NULL, 1);
        }
    }

    // ---- 19

    private static void forgetTellsHowMany() {
        LostTicket x = typed("www", THREE);
        CHECK.due("19: none", x.forget(), 0);
        x.seen(1, 2);
        CHECK.due("19: one", x.forget(), 1);
        CHECK.due("19: none again", x.forget(), 0);
        CHECK.due("19: none SEEN", x.count(5), 0);
        CHECK.due("19: as before", x.losers(), 7);
        CHECK.due("19: eight", fullOfSeen().forget(), 8);
    }

    // ---- 20

    private static void losers(String name, int bits, LostTicket x) {
        CHECK.due("20: " + name, x.losers(), bits);
    }

    private static void losersOfNobody() {
        losers("new", 0, new LostTicket());
        losers("nobody", 0, typed("www", ""));
        losers("a FAULT", 0, typed("www", "0o1"));
        losers("nobody, one is free", 0, seen("www", "", -1, 0));
    }

    private static void losersArePlain() {
        losers("each of eight", 255, typed("wwwwwwww", "0o1o2o3o4o5o6o7o"));
        losers("no other KIND", 0, typed("www", "0l1n2s"));
        losers("the plain one", 2, typed("www", "0n1o2s"));
        losers("one alone", 1, typed("w", "0o"));
        losers("who comes last of all", 4, seen("wwww", THREE, 0, 0, 1, 1, 2, 3));
    }

    private static void losersMoreThanIsTold() {
        losers("the told one can have done it", 6, seen("www", "0l1o2o", 1, 2));
        losers("two at once are needed: the told one and another", 2, seen("wwww", "0l1o2o", 0, 0, 1, 3));
        losers("not two more", 0, seen("wwwww", THREE, 0, 3, 1, 4));
    }

    private static void neverSoWhoIsNotThere() {
        losers("nobody of number 3", 0, seen("wwww", THREE, 3, 3));
        losers("nobody of number 7", 0, seen("wwww", THREE, 7, 0));
        losers("no SEAT 3", 0, seen("www", THREE, 0, 3));
        losers("no SEAT 7", 0, seen("www", THREE, 2, 7));
        losers("no SEAT 3 that is free", 0, seen("www", "0o1o", -1, 3));
        losers("no SEAT 7 that is free", 0, seen("www", "0o1o", -1, 7));
        losers("one who is there behind it", 0, seen("wwww", THREE, 3, 3, 0, 0));
        losers("one who is there ahead of it", 0, seen("wwww", THREE, 0, 0, 3, 3));
    }

    private static void neverSoTwoOnOneSeat() {
        losers("one on two SEATS", 0, seen("www", THREE, 0, 1, 0, 2));
        losers("two on one SEAT", 0, seen("www", THREE, 0, 1, 1, 1));
        losers("the same told twice", 1, seen("www", THREE, 0, 1, 0, 1));
        losers("free and taken", 0, seen("www", "0o1o", -1, 0, 0, 0));
        losers("taken and free", 0, seen("www", "0o1o", 0, 0, -1, 0));
        losers("all told", 1, seen("www", THREE, 0, 1, 1, 0, 2, 2));
    }

    private static void freeAtLast() {
        losers("none is free at last", 0, seen("www", THREE, -1, 0));
        losers("nobody's own", 3, seen("www", "0o1o", -1, 2));
        losers("the first one's own", 1, seen("www", "0o1o", -1, 0));
        losers("two are free", 2, seen("wwww", "0o1o", -1, 1, -1, 2));
        losers("three are free of four, though two sit", 0, seen("wwww", "0o1o", -1, 1, -1, 2, -1, 3));
    }

    private static void seenStaysWhenTextsChange() {
        LostTicket x = seen("www", "0o1o", 2, 2);
        losers("2 is not there", 0, x);
        TextsTest.type(x, 1, "2o");
        losers("2 is there", 7, x);
        x.wipe(0);
        losers("no SEATS", 0, x);
        CHECK.due("20: SEEN stays", x.count(5), 1);
        TextsTest.type(x, 0, "w;w;a");
        losers("there again", 7, x);
    }

    // ---- 21

    private static void share(LostTicket x, int person, long above, long below) {
        EDGE.fraction("21: share " + person, what -> x.share(person, what), above, below);
    }

    private static void shareOfAll() {
        share(typed("w", "0o"), 0, 1, 1);
        for (int person = 0; person < 8; person++) {
            share(typed("wwwwwwww", "0o1o2o3o4o5o6o7o"), person, 1, 8);
        }
        share(seen("www", THREE, 0, 0), 0, 1, 7);
        share(seen("www", THREE, 0, 0), 1, 3, 7);
        share(seen("www", THREE, 0, 0), 2, 3, 7);
        share(seen("www", THREE, 0, 1), 0, 1, 1);
        share(seen("www", THREE, 0, 1), 1, 0, 1);
        share(seen("www", "0l1o2o", 0, 0), 2, 1, 2);
    }

    private static void shareOfNone() {
        for (int person = 0; person < 3; person++) {
            for (int w = 0; w <= 1; w++) {
                int who = person;
                int what = w;
                EDGE.refused("21: 0 for all", () -> seen("www", THREE, -1, 0), x -> x.share(who, what), NOT);
                EDGE.refused("21: 0 for all", () -> seen("www", THREE, 7, 7), x -> x.share(who, what), NOT);
            }
        }
    }

    private static void shareRefuses() {
        Supplier<LostTicket> some = () -> seen("wwww", "0o1l2n3s", 1, 2);
        Supplier<LostTicket> none = () -> seen("wwww", "0o1l2n3s", 7, 7);
        for (int person : new int[] {Integer.MIN_VALUE, -2, -1, 4, 7, 8, Integer.MAX_VALUE}) {
            EDGE.refused("21: person " + person, some, x -> x.share(person, 0), BAD);
            EDGE.refused("21: BAD ahead of NOT", none, x -> x.share(person, 0), BAD);
        }
        for (int p = 1; p <= 3; p++) {
            int person = p;
            EDGE.refused("21: not plain " + person, some, x -> x.share(person, 1), BAD);
            EDGE.refused("21: not plain, ahead of NOT", none, x -> x.share(person, 1), BAD);
        }
        for (int what : new int[] {Integer.MIN_VALUE, -1, 2, Integer.MAX_VALUE}) {
            EDGE.refused("21: what " + what, some, x -> x.share(0, what), BAD);
            EDGE.refused("21: BAD what ahead of NOT", none, x -> x.share(0, what), BAD);
        }
        CHECK.due("21: nobody", new LostTicket().share(0, 0), BAD);
        CHECK.due("21: a ninth", typed("wwwwwwww", "0o1o2o3o4o5o6o7o").share(8, 0), BAD);
    }

    // ---- 22

    private static void likeliestOfLikeOnes() {
        CHECK.due("22: new", new LostTicket().likeliest(), LostTicket.NONE);
        CHECK.due("22: nobody", typed("www", "").likeliest(), LostTicket.NONE);
        CHECK.due("22: nobody plain", typed("www", "0l1n2s").likeliest(), LostTicket.NONE);
        CHECK.due("22: 0 for all", seen("www", THREE, -1, 0).likeliest(), LostTicket.NONE);
        CHECK.due("22: all alike", typed("www", THREE).likeliest(), 0);
        CHECK.due("22: two alike", seen("www", THREE, 0, 0).likeliest(), 1);
        CHECK.due("22: the last alone", seen("wwwwwwww", "0l1l2l3l4l5l6l7o").likeliest(), 7);
        CHECK.due("22: the likeliest is not the first", seen("www", THREE, 1, 2).likeliest(), 1);
    }

    // ---- 23

    private static void ask(String name, int whom, int left, LostTicket x) {
        CHECK.due("23: " + name + ", whom", x.ask(0), whom);
        CHECK.due("23: " + name + ", how many are left", x.ask(1), left);
    }

    private static void askWhoWasNotSeen() {
        ask("all but the last", 2, 3, seen("www", THREE, 0, 0, 1, 1));
        ask("all but the first", 0, 3, seen("www", THREE, 1, 1, 2, 2));
        ask("a free SEAT is nobody SEEN", 0, 1, seen("www", "0o1o", -1, 0));
        ask("one alone", 0, 1, typed("w", "0o"));
        ask("one told as lost, too", 0, 1, seen("ww", "0l1o"));
        ask("of like ones the least", 0, 8, typed("wwwwwwww", "0o1o2o3o4o5o6o7o"));
    }

    // 1 sits on 3: either 1 has lost it, and 0 sits on 0, or 0 has, and sits on 1.
    private static void askTheFewestInTheWorstCase() {
        ask("0 tells all", 0, 1, seen("wwwww", "0o1o2o3o4o", 1, 3));
        ask("0 was SEEN", 2, 1, seen("wwwww", "0o1o2o3o4o", 1, 3, 0, 0));
        ask("0 tells nothing, 1 all", 1, 1, seen("wwww", "0n1o2o", 2, 3));
        ask("both may be left in the worst case", 2, 2, seen("wwww", "0n0o2o", 0, 0, 1, 1));
    }

    private static void askRefuses() {
        Supplier<LostTicket> all = () -> seen("www", THREE, 0, 0, 1, 1, 2, 2);
        Supplier<LostTicket> none = () -> seen("www", THREE, -1, 0);
        for (int w = 0; w <= 1; w++) {
            int what = w;
            EDGE.refused("23: nobody to ask", all, x -> x.ask(what), Edge.NOT);
            EDGE.refused("23: no LOSERS", none, x -> x.ask(what), Edge.NOT);
            EDGE.refused("23: nobody", () -> typed("www", ""), x -> x.ask(what), Edge.NOT);
            EDGE.refused("23: no SEATS", LostTicket::new, x -> x.ask(what), Edge.NOT);
            EDGE.refused("23: nobody plain", () -> typed("www", "0l1n2s"), x -> x.ask(what), Edge.NOT);
        }
        for (int what : new int[] {Integer.MIN_VALUE, -1, 2, Integer.MAX_VALUE}) {
            EDGE.refused("23: what " + what, () -> typed("www", THREE), x -> x.ask(what), Edge.BAD);
            EDGE.refused("23: BAD ahead of NOT", all, x -> x.ask(what), Edge.BAD);
            EDGE.refused("23: BAD ahead of NOT", none, x -> x.ask(what), Edge.BAD);
        }
    }
}
