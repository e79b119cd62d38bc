import java.util.Random;

/** Promises 1 to 6: texts and their faults, against regular expressions. */
public final class TextsTest {
    private static final Check CHECK = new Check();
    private static final Random RANDOM = new Random(7);

    public static void main(String[] args) {
        newObject();
        edges();
        manyTexts();
        seatsChangeUnderPeople();
        CHECK.end("TextsTest");
    }

    static LostTicket typed(String seats, String people) {
        LostTicket x = new LostTicket();
        type(x, 0, seats);
        type(x, 1, people);
        return x;
    }

    static void type(LostTicket x, int text, String signs) {
        for (int i = 0; i < signs.length(); i++) {
            x.type(text, signs.charAt(i));
        }
    }

    private static void newObject() {
        LostTicket x = new LostTicket();
        for (int what = 0; what <= 8; what++) {
            CHECK.due("new count " + what, x.count(what), 0);
        }
        CHECK.due("new fault 0", x.fault(0), 0);
        CHECK.due("new fault 1", x.fault(1), LostTicket.NONE);
        for (int s = 0; s < 4; s++) {
            CHECK.due("new lose", x.lose(s), -11);
        }
    }

    private static void edges() {
        LostTicket x = new LostTicket();
        int[] bad = {Integer.MIN_VALUE, -1, 2, Integer.MAX_VALUE};
        for (int text : bad) {
            CHECK.due("type BAD", x.type(text, 'w'), LostTicket.BAD);
            CHECK.due("wipe BAD", x.wipe(text), LostTicket.BAD);
            CHECK.due("fault BAD", x.fault(text), LostTicket.BAD);
        }
        for (int b : new int[] {-1, 256, Integer.MIN_VALUE, Integer.MAX_VALUE, 'w' + 256, 'w' - 256}) {
            CHECK.due("type BAD byte", x.type(0, b), LostTicket.BAD);
        }
        CHECK.due("no byte came", x.count(3), 0);
        for (int text = 0; text <= 1; text++) {
            CHECK.due("byte 0", x.type(text, 0), 1);
            CHECK.due("byte 255", x.type(text, 255), 2);
            for (int i = 3; i <= 20; i++) {
                CHECK.due("type", x.type(text, 'w'), i);
            }
            CHECK.due("21st", x.type(text, 'w'), LostTicket.FULL);
            CHECK.due("21st, wrong", x.type(text, 256), LostTicket.BAD);
            CHECK.due("bytes", x.count(3 + text), 20);
            CHECK.due("wipe", x.wipe(text), 20);
            CHECK.due("wipe again", x.wipe(text), 0);
        }
        x = typed("wma;a", "3l3o0n1s");
        CHECK.due("seat sort", x.seat(2, 0), 2);
        CHECK.due("seat row", x.seat(3, 1), 1);
        CHECK.due("seat owners", x.seat(3, 2), 3);
        CHECK.due("person own", x.person(3, 0), 1);
        CHECK.due("person kind", x.person(3, 1), 3);
        int[][] none = {{-1, 0}, {4, 0}, {0, -1}, {0, 3}};
        for (int[] n : none) {
            CHECK.due("seat BAD", x.seat(n[0], n[1]), LostTicket.BAD);
            CHECK.due("person BAD", x.person(n[0], n[1] == 3 ? 2 : n[1]), LostTicket.BAD);
        }
    }

    private static String byChance(String signs, int most) {
        StringBuilder text = new StringBuilder();
        int n = RANDOM.nextInt(most + 1);
        for (int i = 0; i < n; i++) {
            text.append(signs.charAt(RANDOM.nextInt(signs.length())));
        }
        return text.toString();
    }

    private static int lettersIn(String text) {
        return text.replace(";", "").length();
    }

    static int seatsFault(String text) {
        int at = 0;
        while (at < text.length() && text.substring(0, at + 1).matches("([wma]+;)*[wma]*")
                && lettersIn(text.substring(0, at + 1)) <= 8) {
            at++;
        }
        return at == text.length() && text.matches("[wma]+(;[wma]+)*") ? -1 : at;
    }

    static int peopleFault(String text, int seats) {
        String figure = seats == 0 ? "(?!)" : "[0-" + (seats - 1) + "]";
        int at = 0;
        while (at < text.length() && at < 2 * seats
                && text.substring(0, at + 1).matches("(" + figure + "[olns])*" + figure + "?")) {
            at++;
        }
        return at == text.length() && at % 2 == 0 ? -1 : at;
    }

    private static void manyTexts() {
        for (int round = 0; round < 20000; round++) {
            String seats = byChance(round % 3 == 0 ? "wmaw;" : round % 3 == 1 ? "wma" : "wwmmaa;;x0W", 12);
            String people = "";
            int pairs = RANDOM.nextInt(7);
            for (int i = 0; i < pairs; i++) {
                people += (char) ('0' + RANDOM.nextInt(RANDOM.nextInt(4) == 0 ? 10 : 4));
                people += RANDOM.nextInt(12) == 0 ? 'x' : "olns".charAt(RANDOM.nextInt(4));
            }
            people += RANDOM.nextInt(4) == 0 ? "0" : "";
            LostTicket x = typed(seats, people);
            int fault = seatsFault(seats);
            int many = fault == -1 ? lettersIn(seats) : 0;
            String name = seats + " " + people + ": ";
            CHECK.due(name + "fault 0", x.fault(0), fault);
            CHECK.due(name + "seats", x.count(0), many);
            CHECK.due(name + "rows", x.count(1), fault == -1 ? seats.split(";").length : 0);
            fault = peopleFault(people, many);
            CHECK.due(name + "fault 1", x.fault(1), fault);
            CHECK.due(name + "people", x.count(2), fault == -1 ? people.length() / 2 : 0);
            CHECK.due(name + "bytes 0", x.count(3), seats.length());
            CHECK.due(name + "bytes 1", x.count(4), people.length());
        }
    }

    private static void seatsChangeUnderPeople() {
        LostTicket x = typed("ww", "1l0o");
        CHECK.due("two there", x.count(2), 2);
        x.wipe(0);
        CHECK.due("no seats, nobody", x.count(2), 0);
        CHECK.due("fault without seats", x.fault(1), 0);
        type(x, 0, "m");
        CHECK.due("figure of no seat", x.fault(1), 0);
        type(x, 0, ";a");
        CHECK.due("there again", x.count(2), 2);
        CHECK.due("sort anew", x.seat(0, 0), 1);
        CHECK.due("likely anew", x.likely(0, 1, 1), 2);
    }
}
