import java.lang.reflect.Array;
import java.util.ArrayList;
import java.util.Arrays;
import java.util.List;

/** The whole face once more, over Naive and rows of the Java machine: slow, and nothing is kept ready. */
final class Model {
    private static final int BAD = -2, NOT = -3, FULL = -4;

    private final StringBuilder[] texts = {new StringBuilder(), new StringBuilder()};
    private final Object[] rows = new Object[4];
    private final List<int[]> seen = new ArrayList<>();
    private int finding;
    private Naive naive;

    private static long asLong(long refusal) {
        return Long.MIN_VALUE - refusal;
    }

    private static boolean in(int v, int least, int most) {
        return least <= v && v <= most;
    }

    private int found(int number) {
        finding = number;
        return -10 - number;
    }

    // ---- texts

    int type(int text, int b) {
        if (!in(text, 0, 1) || !in(b, 0, 255)) {
            return BAD;
        }
        if (texts[text].length() == 20) {
            return FULL;
        }
        naive = null;
        return texts[text].append((char) b).length();
    }

    int wipe(int text) {
        if (!in(text, 0, 1)) {
            return BAD;
        }
        int had = texts[text].length();
        texts[text].setLength(0);
        naive = null;
        return had;
    }

    int fault(int text) {
        if (!in(text, 0, 1)) {
            return BAD;
        }
        return text == 0 ? TextsTest.seatsFault(texts[0].toString())
                : TextsTest.peopleFault(texts[1].toString(), seatText().replace(";", "").length());
    }

    private String seatText() {
        return fault(0) == -1 ? texts[0].toString() : "";
    }

    private String peopleText() {
        return fault(1) == -1 ? texts[1].toString() : "";
    }

    private Naive house() {
        if (naive == null) {
            String people = peopleText();
            int[] own = new int[people.length() / 2];
            char[] kind = new char[own.length];
            for (int i = 0; i < own.length; i++) {
                own[i] = people.charAt(2 * i) - '0';
                kind[i] = people.charAt(2 * i + 1);
            }
            naive = new Naive(seatText().replace(";", ""), own, kind);
        }
        return naive;
    }

    int seats() {
        return house().seats.length();
    }

    int people() {
        return house().own.length;
    }

    int seat(int seat, int what) {
        if (!in(seat, 0, seats() - 1) || !in(what, 0, 2)) {
            return BAD;
        }
        if (what == 0) {
            return "wma".indexOf(house().seats.charAt(seat));
        }
        if (what == 1) {
            int row = 0;
            int ahead = 0;
            for (char c : seatText().toCharArray()) {
                if (c == ';') {
                    row++;
                } else if (ahead++ == seat) {
                    return row;
                }
            }
        }
        int owners = 0;
        for (int i = 0; i < people(); i++) {
            owners |= house().own[i] == seat ? 1 << i : 0;
        }
        return owners;
    }

    int person(int person, int what) {
        if (!in(person, 0, people() - 1) || !in(what, 0, 1)) {
            return BAD;
        }
        return what == 0 ? house().own[person] : "olns".indexOf(house().kind[person]);
    }

    // ---- chances

    long likely(int person, int seat, int what) {
        if (!in(person, 0, people() - 1) || !in(seat, 0, seats() - 1) || !in(what, 0, 1)) {
            return asLong(BAD);
        }
        return house().chance(o -> o.at()[person] == seat).part(what);
    }

    long taken(int k, int set, int what) {
        if (!in(k, 0, people()) || !in(set, 0, (1 << seats()) - 1) || !in(what, 0, 1)) {
            return asLong(BAD);
        }
        return house().chance(o -> Naive.taken(o, k) == set).part(what);
    }

    long wrong(int k, int what) {
        if (!in(k, -1, people()) || !in(what, 0, 1)) {
            return asLong(BAD);
        }
        Naive n = house();
        return (k == -1 ? n.mean(n::wrongs) : n.chance(o -> n.wrongs(o) == k)).part(what);
    }

    long left(int seat, int what) {
        if (!in(seat, 0, seats() - 1) || !in(what, 0, 1)) {
            return asLong(BAD);
        }
        return house().chance(o -> house().isFree(o.at(), people(), seat)).part(what);
    }

    long looks(int what) {
        return in(what, 0, 1) ? house().mean(house()::looks).part(what) : asLong(BAD);
    }

    private int refusal(int s, boolean othersFit) {
        if (!in(s, 0, 3) || !othersFit) {
            return BAD;
        }
        return rows[s] == null ? found(1) : 0;
    }

    private int[] sitting(int s) {
        if (size(s) < people()) {
            return null;
        }
        int[] at = new int[people()];
        for (int i = 0; i < at.length; i++) {
            at[i] = item(s, i);
        }
        return at;
    }

    int judged(int s) {
        int refusal = refusal(s, true);
        if (refusal != 0) {
            return refusal;
        }
        int[] at = sitting(s);
        if (at == null) {
            return NOT;
        }
        for (int person = 0; person < at.length; person++) {
            if (!house().where(at, person).contains(at[person])) {
                return person;
            }
        }
        return -1;
    }

    long sitting(int s, int what) {
        int refusal = refusal(s, in(what, 0, 1));
        if (refusal != 0) {
            return asLong(refusal);
        }
        int[] at = sitting(s);
        return at == null ? asLong(NOT) : house().chance(o -> Arrays.equals(o.at(), at)).part(what);
    }

    // ---- orders, putting right

    int order(int i) {
        if (i < 0) {
            return BAD;
        }
        if (people() > 6) {
            return FULL;
        }
        return i < people() ? house().order(new Naive.Ratio[1])[i] : BAD;
    }

    long best(int what) {
        if (!in(what, 0, 1)) {
            return asLong(BAD);
        }
        if (people() > 6) {
            return asLong(FULL);
        }
        Naive.Ratio[] mean = new Naive.Ratio[1];
        house().order(mean);
        return mean[0].part(what);
    }

    int back(int s, int what) {
        int refusal = refusal(s, in(what, 0, 2));
        if (refusal != 0) {
            return refusal;
        }
        int[] at = sitting(s);
        int[] all = new int[seats()];
        Arrays.setAll(all, i -> i);
        int[] own = house().own.clone();
        Arrays.sort(own);
        int[] sorted = at == null ? null : at.clone();
        if (sorted != null) {
            Arrays.sort(sorted);
        }
        if (!Arrays.equals(sorted, all) || !Arrays.equals(own, all)) {
            return NOT;
        }
        return rings(at)[what];
    }

    /** Each swap that brings one home is needed; rings of two go in one round, longer ones in two. */
    private int[] rings(int[] at) {
        int[] now = at.clone();
        int rings = 0;
        int changes = 0;
        int longest = 1;
        for (int i = 0; i < now.length; i++) {
            int length = 1;
            while (now[i] != house().own[i]) {
                for (int j = 0; j < now.length; j++) {
                    if (j != i && now[j] == house().own[i]) {
                        now[j] = now[i];
                        now[i] = house().own[i];
                        changes++;
                        length++;
                        i = j;
                        break;
                    }
                }
            }
            rings += length > 1 ? 1 : 0;
            longest = Math.max(longest, length);
            i = length > 1 ? -1 : i;
        }
        return new int[] {rings, changes, Math.min(longest - 1, 2)};
    }

    // ---- losers

    private static boolean mayBeSeen(int person, int seat) {
        return in(person, -1, 7) && in(seat, 0, 7);
    }

    int seen(int person, int seat) {
        if (!mayBeSeen(person, seat)) {
            return BAD;
        }
        if (seen.size() == 8) {
            return FULL;
        }
        seen.add(new int[] {person, seat});
        return seen.size();
    }

    int read(int s) {
        int refusal = refusal(s, true);
        if (refusal != 0) {
            return refusal;
        }
        int had = seen.size();
        for (int i = 0; i < size(s) / 2; i++) {
            if (seen(item(s, 2 * i), item(s, 2 * i + 1)) < 0) {
                break;
            }
        }
        return seen.size() - had;
    }

    int forget() {
        int had = seen.size();
        seen.clear();
        return had;
    }

    private Naive.Ratio total(Naive.Ratio[] weights) {
        return Arrays.stream(weights).reduce(Naive.ZERO, Naive.Ratio::plus);
    }

    int losers() {
        Naive.Ratio[] weights = house().weights(seen);
        int bits = 0;
        for (int i = 0; i < weights.length; i++) {
            bits |= weights[i].above().signum() > 0 ? 1 << i : 0;
        }
        return bits;
    }

    long share(int person, int what) {
        if (!in(person, 0, people() - 1) || !in(what, 0, 1) || house().kind[person] != 'o') {
            return asLong(BAD);
        }
        Naive.Ratio[] weights = house().weights(seen);
        Naive.Ratio total = total(weights);
        return total.above().signum() == 0 ? asLong(NOT) : weights[person].by(total).part(what);
    }

    int likeliest() {
        Naive.Ratio[] weights = house().weights(seen);
        int best = -1;
        for (int i = 0; i < weights.length; i++) {
            best = weights[i].compare(best < 0 ? Naive.ZERO : weights[best]) > 0 ? i : best;
        }
        return best;
    }

    int ask(int what) {
        if (!in(what, 0, 1)) {
            return BAD;
        }
        int[] answer = house().ask(seen);
        return answer == null ? NOT : answer[what];
    }

    // ---- turning out, evenings

    long turned(int n, int k, int what) {
        boolean told = in(n, 1, 9) && in(k, 0, n) && in(what, 0, 1);
        return told ? TurnedTest.bySets(n, k).part(what) : asLong(BAD);
    }

    int evening(int seed, int person) {
        if (!in(person, -1, people() - 1)) {
            return BAD;
        }
        int[] at = house().evening(seed);
        return person == -1 ? house().wrongs(new Naive.Outcome(at, 1)) : at[person];
    }

    // ---- sheets

    private int size(int s) {
        return Array.getLength(rows[s]);
    }

    private int item(int s, int i) {
        return Array.getInt(rows[s], i);
    }

    private int form(int s) {
        return rows[s] instanceof byte[] ? 0 : rows[s] instanceof short[] ? 1 : 2;
    }

    private void put(int s, int i, int v) {
        if (rows[s] instanceof byte[] b) {
            b[i] = (byte) v;
        } else if (rows[s] instanceof short[] h) {
            h[i] = (short) v;
        } else {
            ((int[]) rows[s])[i] = v;
        }
    }

    int sheet(int s, int form, int n) {
        if (!in(s, 0, 3) || !in(form, 0, 2) || n > 60) {
            return BAD;
        }
        if (n < 0) {
            return found(5);
        }
        rows[s] = form == 0 ? new byte[n] : form == 1 ? new short[n] : new int[n];
        return n;
    }

    int lose(int s) {
        int refusal = refusal(s, true);
        int had = refusal == 0 ? size(s) : refusal;
        if (refusal == 0) {
            rows[s] = null;
        }
        return had;
    }

    private int itemRefusal(int s, int form, int i) {
        int refusal = refusal(s, in(form, 0, 2));
        if (refusal != 0) {
            return refusal;
        }
        if (form(s) != form) {
            return found(3);
        }
        return in(i, 0, size(s) - 1) ? 0 : found(2);
    }

    int lay(int s, int form, int i, int v) {
        int refusal = itemRefusal(s, form, i);
        if (refusal != 0) {
            return refusal;
        }
        put(s, i, v);
        return 1;
    }

    int get(int s, int form, int i) {
        return itemRefusal(s, form, i) == 0 ? item(s, i) : Integer.MIN_VALUE;
    }

    int copy(int s, int i, int t, int j, int n) {
        if (!in(s, 0, 3) || !in(t, 0, 3)) {
            return BAD;
        }
        if (rows[s] == null || rows[t] == null) {
            return found(1);
        }
        if (form(s) != form(t)) {
            return found(4);
        }
        try {
            System.arraycopy(rows[s], i, rows[t], j, n);
            return 1;
        } catch (IndexOutOfBoundsException e) {
            return found(2);
        }
    }

    int write(int seed, int s) {
        int refusal = refusal(s, true);
        if (refusal != 0) {
            return refusal;
        }
        int many = Math.min(size(s), people());
        int[] at = house().evening(seed);
        for (int i = 0; i < many; i++) {
            put(s, i, at[i]);
        }
        return many;
    }

    int count(int what) {
        String text = seatText();
        return switch (what) {
            case 0 -> seats();
            case 1 -> text.isEmpty() ? 0 : text.split(";").length;
            case 2 -> people();
            case 3 -> texts[0].length();
            case 4 -> texts[1].length();
            case 5 -> seen.size();
            case 6 -> (int) new String(house().kind).chars().filter(c -> c == 'l').count();
            case 7 -> seats() - (int) Arrays.stream(house().own).distinct().count();
            case 8 -> finding;
            default -> BAD;
        };
    }
}
