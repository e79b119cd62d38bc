import java.math.BigInteger;
import java.util.ArrayList;
import java.util.Arrays;
import java.util.List;
import java.util.function.Predicate;
import java.util.function.ToLongFunction;

/** The document once more, as slow and plain as can be: every sitting is written out. */
final class Naive {
    /** One way in which all sat down: who sits where, and 1 by how likely it is. */
    record Outcome(int[] at, long below) { }

    record Ratio(BigInteger above, BigInteger below) {
        static Ratio of(BigInteger above, BigInteger below) {
            BigInteger g = above.gcd(below);
            return new Ratio(above.divide(g), below.divide(g));
        }

        Ratio plus(Ratio o) {
            return of(above.multiply(o.below).add(o.above.multiply(below)), below.multiply(o.below));
        }

        Ratio by(Ratio o) {
            return of(above.multiply(o.below), below.multiply(o.above));
        }

        int compare(Ratio o) {
            return above.multiply(o.below).compareTo(o.above.multiply(below));
        }

        long part(int what) {
            return (what == 0 ? above : below).longValueExact();
        }
    }

    static final Ratio ZERO = new Ratio(BigInteger.ZERO, BigInteger.ONE);
    static final Ratio ONE = new Ratio(BigInteger.ONE, BigInteger.ONE);

    final String seats;
    final int[] own;
    final char[] kind;
    List<Outcome> outcomes;

    /** seats without the ; between rows. */
    Naive(String seats, int[] own, char[] kind) {
        this.seats = seats;
        this.own = own;
        this.kind = kind;
    }

    List<Outcome> outcomes() {
        if (outcomes == null) {
            outcomes = new ArrayList<>();
            go(new int[own.length], 0, 1);
        }
        return outcomes;
    }

    private void go(int[] at, int person, long below) {
        if (person == own.length) {
            outcomes.add(new Outcome(at.clone(), below));
            return;
        }
        List<Integer> where = where(at, person);
        for (int seat : where) {
            at[person] = seat;
            go(at, person + 1, below * where.size());
        }
    }

    boolean isFree(int[] at, int person, int seat) {
        for (int i = 0; i < person; i++) {
            if (at[i] == seat) {
                return false;
            }
        }
        return true;
    }

    List<Integer> where(int[] at, int person) {
        List<Integer> free = new ArrayList<>();
        List<Integer> sort = new ArrayList<>();
        for (int seat = 0; seat < seats.length(); seat++) {
            if (isFree(at, person, seat)) {
                free.add(seat);
                if (seats.charAt(seat) == seats.charAt(own[person])) {
                    sort.add(seat);
                }
            }
        }
        if (kind[person] == 'l') {
            return free;
        }
        if (free.contains(own[person])) {
            return List.of(own[person]);
        }
        if (kind[person] == 'n') {
            int seat = own[person];
            while (!free.contains(seat)) {
                seat = (seat + 1) % seats.length();
            }
            return List.of(seat);
        }
        return kind[person] == 's' && !sort.isEmpty() ? sort : free;
    }

    /** The mean of a number over all outcomes. */
    Ratio mean(ToLongFunction<Outcome> number) {
        BigInteger unit = BigInteger.ONE;
        for (int i = 1; i <= 8; i++) {
            unit = unit.multiply(BigInteger.valueOf(840));
        }
        BigInteger sum = BigInteger.ZERO;
        for (Outcome o : outcomes()) {
            long times = number.applyAsLong(o);
            if (times != 0) {
                BigInteger[] parts = unit.divideAndRemainder(BigInteger.valueOf(o.below));
                if (parts[1].signum() != 0) {
                    throw new IllegalStateException("unit does not fit");
                }
                sum = sum.add(parts[0].multiply(BigInteger.valueOf(times)));
            }
        }
        return Ratio.of(sum, unit);
    }

    Ratio chance(Predicate<Outcome> fact) {
        return mean(o -> fact.test(o) ? 1 : 0);
    }

    int wrongs(Outcome o) {
        int many = 0;
        for (int i = 0; i < own.length; i++) {
            many += o.at[i] == own[i] ? 0 : 1;
        }
        return many;
    }

    int looks(Outcome o) {
        int many = 0;
        for (int i = 0; i < own.length; i++) {
            if (kind[i] == 'n') {
                for (int seat = own[i]; seat != o.at[i]; seat = (seat + 1) % seats.length()) {
                    many++;
                }
            }
        }
        return many;
    }

    static int taken(Outcome o, int k) {
        int set = 0;
        for (int i = 0; i < k; i++) {
            set |= 1 << o.at[i];
        }
        return set;
    }

    /** The best row, and its mean behind it in mean[0]. */
    int[] order(Ratio[] mean) {
        int[] best = null;
        for (int[] row : permutations(own.length)) {
            int[] o = new int[row.length];
            char[] k = new char[row.length];
            for (int i = 0; i < row.length; i++) {
                o[i] = own[row[i]];
                k[i] = kind[row[i]];
            }
            Naive other = new Naive(seats, o, k);
            Ratio m = other.mean(other::wrongs);
            if (best == null || m.compare(mean[0]) < 0
                    || m.compare(mean[0]) == 0 && Arrays.compare(row, best) < 0) {
                best = row;
                mean[0] = m;
            }
        }
        return best;
    }

    static List<int[]> permutations(int n) {
        List<int[]> all = new ArrayList<>();
        permute(new int[n], 0, all);
        return all;
    }

    private static void permute(int[] row, int at, List<int[]> all) {
        if (at == row.length) {
            all.add(row.clone());
            return;
        }
        for (int v = 0; v < row.length; v++) {
            boolean used = false;
            for (int i = 0; i < at; i++) {
                used |= row[i] == v;
            }
            if (!used) {
                row[at] = v;
                permute(row, at + 1, all);
            }
        }
    }

    /** The same house with one more who has lost the ticket. */
    Naive with(int loser) {
        char[] k = kind.clone();
        k[loser] = 'l';
        return new Naive(seats, own, k);
    }

    boolean fits(Outcome o, List<int[]> seen) {
        for (int[] s : seen) {
            boolean so;
            if (s[0] == -1) {
                so = s[1] < seats.length() && isFree(o.at, own.length, s[1]);
            } else {
                so = s[0] < own.length && o.at[s[0]] == s[1];
            }
            if (!so) {
                return false;
            }
        }
        return true;
    }

    Ratio[] weights(List<int[]> seen) {
        Ratio[] weights = new Ratio[own.length];
        for (int i = 0; i < own.length; i++) {
            Naive other = kind[i] == 'o' ? with(i) : null;
            weights[i] = other == null ? ZERO : other.chance(o -> fits(o, seen));
        }
        return weights;
    }

    /** Whom, and how many are left; null if there are no losers or nobody to ask. */
    int[] ask(List<int[]> seen) {
        int[] best = null;
        if (Arrays.stream(weights(seen)).allMatch(w -> w.above.signum() == 0)) {
            return null;
        }
        for (int person = 0; person < own.length; person++) {
            int asked = person;
            if (seen.stream().anyMatch(s -> s[0] == asked)) {
                continue;
            }
            int worst = 0;
            for (int seat = 0; seat < seats.length(); seat++) {
                List<int[]> more = new ArrayList<>(seen);
                more.add(new int[] {person, seat});
                long left = Arrays.stream(weights(more)).filter(w -> w.above.signum() > 0).count();
                worst = Math.max(worst, (int) left);
            }
            if (best == null || worst < best[1]) {
                best = new int[] {person, worst};
            }
        }
        return best;
    }

    int[] evening(int seed) {
        int[] at = new int[own.length];
        int state = seed;
        for (int person = 0; person < own.length; person++) {
            List<Integer> where = where(at, person);
            boolean sitsRight = kind[person] != 'l' && isFree(at, person, own[person]);
            int number = 0;
            if (!sitsRight && kind[person] != 'n') {
                state = (int) (1103515245L * state + 12345L);
                number = (int) ((state & 0xffffffffL) / 65536 % where.size());
            }
            at[person] = where.get(number);
        }
        return at;
    }

    /** The mean of how many are turned out: each way is gone through, who sits where. */
    static Ratio turned(int n, int k) {
        return turn(new int[n], 0, n, k);
    }

    // on[seat]: 0 free, else 1 more than who sits there
    private static Ratio turn(int[] on, int person, int n, int k) {
        if (person == n) {
            return ZERO;
        }
        if (person < k) {
            return anywhere(on, person, person + 1, n, k);
        }
        int sits = on[person];
        on[person] = person + 1;
        Ratio mean;
        if (sits == 0) {
            mean = turn(on, person + 1, n, k);
        } else {
            mean = ONE.plus(anywhere(on, sits - 1, person + 1, n, k));
        }
        on[person] = sits;
        return mean;
    }

    private static Ratio anywhere(int[] on, int who, int next, int n, int k) {
        Ratio sum = ZERO;
        int free = 0;
        for (int seat = 0; seat < n; seat++) {
            if (on[seat] == 0) {
                free++;
                on[seat] = who + 1;
                sum = sum.plus(turn(on, next, n, k));
                on[seat] = 0;
            }
        }
        return sum.by(new Ratio(BigInteger.valueOf(free), BigInteger.ONE));
    }
}
