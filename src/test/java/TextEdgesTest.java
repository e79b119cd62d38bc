import java.util.function.Supplier;

/** Promises 1 to 6, and the terms SEATS, PEOPLE and FAULT: each sentence that names an edge, by itself. */
public final class TextEdgesTest {
    private static final Check CHECK = new Check();
    private static final Edge EDGE = new Edge(CHECK);
    private static final int[] NO_TEXTS = {Integer.MIN_VALUE, -1, 2, 3, 256, Integer.MAX_VALUE};

    public static void main(String[] args) {
        newObjectHasNoSeatsNobodyNoSheets();
        newObjectDigestByHand();
        typeTakesBytes0To255();
        typeTakesTwentyBytes();
        typeRefuses();
        wipeTellsHowManyBytes();
        wipeRefuses();
        faultRefuses();
        faultOfAnEmptyText();
        faultOfEachFirstByteOfSeats();
        faultOfEachByteBehindALetter();
        faultOfEachByteBehindARow();
        faultOfSeatsNotEnded();
        faultOfANinthSeat();
        faultOfEachFigure();
        faultOfEachKind();
        faultOfPeopleNotEnded();
        faultOfOneTooMany();
        faultAtTheFirstPlaceOnly();
        withAFaultNoSeats();
        withAFaultNobody();
        seatSortsRowsOwners();
        seatRefuses();
        personOwnAndKind();
        personRefuses();
        CHECK.end("TextEdgesTest");
    }

    private static LostTicket typed(String seats, String people) {
        return TextsTest.typed(seats, people);
    }

    private static String times(String one, int many) {
        return one.repeat(many);
    }

    // ---- 1

    private static void newObjectHasNoSeatsNobodyNoSheets() {
        LostTicket x = new LostTicket();
        for (int what = 0; what <= 8; what++) {
            CHECK.due("1: count " + what, x.count(what), 0);
        }
        CHECK.due("1: no SEAT", x.seat(0, 0), Edge.BAD);
        CHECK.due("1: nobody", x.person(0, 0), Edge.BAD);
        for (int s = 0; s < 4; s++) {
            CHECK.due("1: SHEET " + s + " is LOST", new LostTicket().lose(s), Edge.NULL);
        }
    }

    private static void newObjectDigestByHand() {
        long[] told = {0, 0, 0, 0, 0, 0, 0, 0, 0, -1, 0, 1, 0, 1, 1, 1, 0, 1, 0, -1, -3, -3, 0, 47, 30};
        long h = 17;
        for (long v : told) {
            h = 31 * h + v;
        }
        CHECK.due("1, 33: digest of a new object", new LostTicket().digest(), h);
    }

    // ---- 2

    private static void typeTakesBytes0To255() {
        for (int text = 0; text <= 1; text++) {
            for (int b = 0; b <= 255; b++) {
                LostTicket x = new LostTicket();
                CHECK.due("2: byte " + b, x.type(text, b), 1);
                CHECK.due("2: byte " + b, x.count(3 + text), 1);
                CHECK.due("2: byte " + b + " comes to this text alone", x.count(4 - text), 0);
            }
        }
    }

    private static void typeTakesTwentyBytes() {
        for (int text = 0; text <= 1; text++) {
            LostTicket x = new LostTicket();
            for (int i = 1; i <= 20; i++) {
                CHECK.due("2: how many", x.type(text, 0), i);
            }
            CHECK.due("2: the 21st", x.type(text, 0), Edge.FULL);
            CHECK.due("2: still 20", x.count(3 + text), 20);
            CHECK.due("2: the other text has room", x.type(1 - text, 0), 1);
            x.wipe(text);
            CHECK.due("2: room again", x.type(text, 255), 1);
        }
    }

    private static void typeRefuses() {
        Supplier<LostTicket> full = () -> typed(times("w", 8) + times("x", 12), times("0o", 10));
        Supplier<LostTicket> some = () -> typed("wm;a", "0l1o");
        for (int text : NO_TEXTS) {
            EDGE.refused("2: type text " + text, some, x -> x.type(text, 'w'), Edge.BAD);
            EDGE.refused("2: BAD text ahead of FULL", full, x -> x.type(text, 'w'), Edge.BAD);
        }
        for (int b : new int[] {Integer.MIN_VALUE, -256, -1, 256, 'w' + 256, '0' + 256, Integer.MAX_VALUE}) {
            for (int t = 0; t <= 1; t++) {
                int text = t;
                EDGE.refused("2: type byte " + b, some, x -> x.type(text, b), Edge.BAD);
                EDGE.refused("2: BAD byte ahead of FULL", full, x -> x.type(text, b), Edge.BAD);
            }
        }
        EDGE.refused("2: type FULL 0", full, x -> x.type(0, 'w'), Edge.FULL);
        EDGE.refused("2: type FULL 1", full, x -> x.type(1, 'o'), Edge.FULL);
    }

    // ---- 3

    private static void wipeTellsHowManyBytes() {
        for (int text = 0; text <= 1; text++) {
            LostTicket x = new LostTicket();
            CHECK.due("3: an empty one", x.wipe(text), 0);
            TextsTest.type(x, text, "w");
            CHECK.due("3: one byte", x.wipe(text), 1);
            TextsTest.type(x, text, times("w", 20));
            CHECK.due("3: a full one", x.wipe(text), 20);
            CHECK.due("3: it is empty", x.count(3 + text), 0);
            CHECK.due("3: it is empty", x.wipe(text), 0);
        }
        LostTicket x = typed("ww", "0l1o");
        x.wipe(1);
        CHECK.due("3: SEATS stay", x.count(0), 2);
        CHECK.due("3: nobody", x.count(2), 0);
        x = typed("ww", "0l1o");
        x.wipe(0);
        CHECK.due("3: the bytes of PEOPLE stay", x.count(4), 4);
        CHECK.due("3: no SEATS", x.count(0), 0);
        TextsTest.type(x, 0, "aa");
        CHECK.due("3: PEOPLE are there again", x.count(2), 2);
    }

    private static void wipeRefuses() {
        for (int text : NO_TEXTS) {
            EDGE.refused("3: wipe text " + text, () -> typed("wm;a", "0l1o"), x -> x.wipe(text), Edge.BAD);
        }
    }

    // ---- 4

    private static void faultRefuses() {
        for (int text : NO_TEXTS) {
            EDGE.refused("4: fault text " + text, () -> typed("wm;a", "0l1o"), x -> x.fault(text), Edge.BAD);
        }
    }

    private static void seatsFault(String seats, int want) {
        CHECK.due("4: FAULT of SEATS " + seats, typed(seats, "").fault(0), want);
    }

    private static void peopleFault(String seats, String people, int want) {
        CHECK.due("4: FAULT of PEOPLE " + seats + " " + people, typed(seats, people).fault(1), want);
    }

    private static void faultOfAnEmptyText() {
        seatsFault("", 0);
        peopleFault("", "", LostTicket.NONE);
        peopleFault("ww", "", LostTicket.NONE);
        peopleFault("ww;", "", LostTicket.NONE);
    }

    private static void faultOfEachFirstByteOfSeats() {
        for (int b = 0; b <= 255; b++) {
            seatsFault("" + (char) b, "wma".indexOf(b) >= 0 ? LostTicket.NONE : 0);
        }
    }

    private static void faultOfEachByteBehindALetter() {
        for (int b = 0; b <= 255; b++) {
            int want = "wma".indexOf(b) >= 0 ? LostTicket.NONE : b == ';' ? 2 : 1;
            for (String letter : new String[] {"w", "m", "a"}) {
                seatsFault(letter + (char) b, want);
            }
        }
    }

    private static void faultOfEachByteBehindARow() {
        for (int b = 0; b <= 255; b++) {
            seatsFault("w;" + (char) b, "wma".indexOf(b) >= 0 ? LostTicket.NONE : 2);
        }
        seatsFault("w;;m", 2);
        seatsFault(";w", 0);
    }

    private static void faultOfSeatsNotEnded() {
        seatsFault("w;", 2);
        seatsFault("wm;a;", 5);
        seatsFault("w;w;w;w;w;w;w;w;", 16);
        seatsFault("wwwwwwww;", 9);
        seatsFault("wwwwwwww;;", 9);
    }

    private static void faultOfANinthSeat() {
        seatsFault("wwwwwwww", LostTicket.NONE);
        seatsFault("wwwwwwwww", 8);
        seatsFault("wwwwwwww;m", 9);
        seatsFault("w;w;w;w;w;w;w;w", LostTicket.NONE);
        seatsFault("w;w;w;w;w;w;w;w;a", 16);
        seatsFault("w;w;w;w;w;w;w;ww", 15);
        seatsFault(times("a", 20), 8);
        CHECK.due("4: eight SEATS", typed("wwwwwwww", "").count(0), 8);
        CHECK.due("4: eight rows", typed("w;w;w;w;w;w;w;w", "").count(1), 8);
        CHECK.due("4: with a ninth none", typed("wwwwwwwww", "").count(0), 0);
    }

    private static void faultOfEachFigure() {
        for (int seats = 0; seats <= 8; seats++) {
            for (int b = 0; b <= 255; b++) {
                boolean there = b >= '0' && b < '0' + seats;
                peopleFault(times("w", seats), "" + (char) b, there ? 1 : 0);
                peopleFault(times("w", seats), (char) b + "o", there ? LostTicket.NONE : 0);
            }
        }
        peopleFault("wwwwwwww", "7o8o", 2);
        peopleFault("ww", "0o2o", 2);
    }

    private static void faultOfEachKind() {
        for (int b = 0; b <= 255; b++) {
            int want = "olns".indexOf(b) >= 0 ? LostTicket.NONE : 1;
            peopleFault("ww", "1" + (char) b, want);
            peopleFault("ww", "1o0" + (char) b, want == 1 ? 3 : LostTicket.NONE);
        }
    }

    private static void faultOfPeopleNotEnded() {
        peopleFault("w", "0", 1);
        peopleFault("wwww", "0o1l2", 5);
        peopleFault("wwwwwwww", "0o1o2o3o4o5o6o7", 15);
    }

    private static void faultOfOneTooMany() {
        for (int seats = 1; seats <= 8; seats++) {
            String row = times("w", seats);
            String people = times("0o", seats);
            peopleFault(row, people, LostTicket.NONE);
            CHECK.due("4: as many as SEATS", typed(row, people).count(2), seats);
            peopleFault(row, people + "0", 2 * seats);
            peopleFault(row, people + "0o", 2 * seats);
            peopleFault(row, people + "x", 2 * seats);
            CHECK.due("4: of one too many nobody", typed(row, people + "0").count(2), 0);
        }
        peopleFault("wwwwwwww", times("0o", 10), 16);
        peopleFault("", "0o", 0);
        peopleFault("ww;", "0o", 0);
    }

    private static void faultAtTheFirstPlaceOnly() {
        seatsFault("wxmy", 1);
        peopleFault("ww", "0x9y", 1);
        peopleFault("ww", "9x", 0);
        LostTicket x = typed("w;;", "");
        TextsTest.type(x, 0, "wma");
        CHECK.due("4: what comes behind a FAULT mends nothing", x.fault(0), 2);
    }

    private static void withAFaultNoSeats() {
        for (String seats : new String[] {"", "wm;", "wmx", ";", "wwwwwwwww"}) {
            LostTicket x = typed(seats, "0l");
            for (int what : new int[] {0, 1, 2, 6, 7}) {
                CHECK.due("4: " + seats + " count " + what, x.count(what), 0);
            }
            CHECK.due("4: no SEATS, so no figure of one", x.fault(1), 0);
            CHECK.due("4: no SEAT", x.seat(0, 0), Edge.BAD);
            CHECK.due("4: nobody", x.person(0, 0), Edge.BAD);
            CHECK.due("4: none is left", x.left(0, 0), Edge.asLong(Edge.BAD));
        }
    }

    private static void withAFaultNobody() {
        for (String people : new String[] {"0l1", "0lx", "0l1x", "0l2o", "0l1o0", "0l1o0o"}) {
            LostTicket x = typed("wm", people);
            CHECK.due("4: " + people + " SEATS stay", x.count(0), 2);
            CHECK.due("4: " + people + " nobody", x.count(2), 0);
            CHECK.due("4: " + people + " nobody has lost it", x.count(6), 0);
            CHECK.due("4: " + people + " all are nobody's", x.count(7), 2);
            CHECK.due("4: " + people + " nobody", x.person(0, 0), Edge.BAD);
            CHECK.due("4: " + people + " nobody's own", x.seat(0, 2), 0);
            EDGE.fraction("4: " + people + " left", what -> x.left(0, what), 1, 1);
        }
    }

    // ---- 5

    private static void seatSortsRowsOwners() {
        LostTicket x = typed("w;m;a;w;m;a;w;m", "");
        for (int seat = 0; seat < 8; seat++) {
            CHECK.due("5: SORT", x.seat(seat, 0), seat % 3);
            CHECK.due("5: a row for each", x.seat(seat, 1), seat);
            CHECK.due("5: nobody's", x.seat(seat, 2), 0);
        }
        x = typed("wwwwwwww", times("7o", 8));
        for (int seat = 0; seat < 8; seat++) {
            CHECK.due("5: one row", x.seat(seat, 1), 0);
            CHECK.due("5: all have the last one", x.seat(seat, 2), seat == 7 ? 255 : 0);
        }
        x = typed("a;wwwwww;m", "7l0n");
        CHECK.due("5: row of the last", x.seat(7, 1), 2);
        CHECK.due("5: owner of the last", x.seat(7, 2), 1);
        CHECK.due("5: owner of the first", x.seat(0, 2), 2);
    }

    private static void seatRefuses() {
        Supplier<LostTicket> three = () -> typed("wm;a", "0l1o");
        for (int seat : new int[] {Integer.MIN_VALUE, -1, 3, 4, 7, 8, 32, Integer.MAX_VALUE}) {
            for (int w = 0; w <= 2; w++) {
                int what = w;
                EDGE.refused("5: SEAT " + seat, three, x -> x.seat(seat, what), Edge.BAD);
            }
        }
        for (int what : new int[] {Integer.MIN_VALUE, -1, 3, Integer.MAX_VALUE}) {
            EDGE.refused("5: what " + what, three, x -> x.seat(0, what), Edge.BAD);
            EDGE.refused("5: what " + what, three, x -> x.seat(3, what), Edge.BAD);
        }
        CHECK.due("5: a ninth of eight", typed("wwwwwwww", "").seat(8, 0), Edge.BAD);
    }

    // ---- 6

    private static void personOwnAndKind() {
        LostTicket x = typed("wwwwwwww", "7o0l7n0s1o2l3n7s");
        int[] own = {7, 0, 7, 0, 1, 2, 3, 7};
        for (int person = 0; person < 8; person++) {
            CHECK.due("6: one's own", x.person(person, 0), own[person]);
            CHECK.due("6: KIND", x.person(person, 1), person % 4);
        }
        CHECK.due("6: a ninth of eight", x.person(8, 0), Edge.BAD);
    }

    private static void personRefuses() {
        Supplier<LostTicket> two = () -> typed("wm;a", "0l1o");
        for (int person : new int[] {Integer.MIN_VALUE, -1, 2, 3, 7, 8, Integer.MAX_VALUE}) {
            EDGE.refused("6: person " + person, two, x -> x.person(person, 0), Edge.BAD);
            EDGE.refused("6: person " + person, two, x -> x.person(person, 1), Edge.BAD);
        }
        for (int what : new int[] {Integer.MIN_VALUE, -1, 2, Integer.MAX_VALUE}) {
            EDGE.refused("6: what " + what, two, x -> x.person(0, what), Edge.BAD);
        }
    }
}
