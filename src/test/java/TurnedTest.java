import java.math.BigInteger;
import java.util.ArrayList;
import java.util.Arrays;
import java.util.List;

/** Promise 24: against going through every way, and through every set of SEATS where losers sit. */
public final class TurnedTest {
    public static void main(String[] args) {
        Check check = new Check();
        LostTicket x = new LostTicket();
        for (int n = 1; n <= 9; n++) {
            for (int k = 0; k <= n; k++) {
                Naive.Ratio mean = bySets(n, k);
                check.due("turned " + n + " " + k + " above", x.turned(n, k, 0), mean.part(0));
                check.due("turned " + n + " " + k + " below", x.turned(n, k, 1), mean.part(1));
                check.holds("both ways of going through", n > 6 || mean.equals(Naive.turned(n, k)));
            }
        }
        check.end("TurnedTest");
    }

    /** Of each set of SEATS where losers sit: how likely it is, one who has a ticket behind the other. */
    static Naive.Ratio bySets(int n, int k) {
        Naive.Ratio[] now = atFirst(n, k);
        Naive.Ratio mean = Naive.ZERO;
        int came = 0;
        for (int person = k; person < n; person++) {
            Naive.Ratio[] next = new Naive.Ratio[1 << n];
            Arrays.fill(next, Naive.ZERO);
            int own = 1 << person;
            came |= own;
            for (int set = 0; set < now.length; set++) {
                if ((set & own) == 0) {
                    next[set] = next[set].plus(now[set]);
                    continue;
                }
                mean = mean.plus(now[set]);
                List<Integer> free = seatsIn(((1 << n) - 1) & ~set & ~came);
                for (int seat : free) {
                    int moved = set & ~own | 1 << seat;
                    next[moved] = next[moved].plus(over(now[set], BigInteger.valueOf(free.size())));
                }
            }
            now = next;
        }
        return mean;
    }

    private static Naive.Ratio[] atFirst(int n, int k) {
        BigInteger ways = BigInteger.ONE;
        for (int i = 0; i < k; i++) {
            ways = ways.multiply(BigInteger.valueOf(n - i)).divide(BigInteger.valueOf(i + 1));
        }
        Naive.Ratio[] now = new Naive.Ratio[1 << n];
        for (int set = 0; set < now.length; set++) {
            now[set] = Integer.bitCount(set) == k ? over(Naive.ONE, ways) : Naive.ZERO;
        }
        return now;
    }

    private static Naive.Ratio over(Naive.Ratio r, BigInteger many) {
        return Naive.Ratio.of(r.above(), r.below().multiply(many));
    }

    static List<Integer> seatsIn(int set) {
        List<Integer> seats = new ArrayList<>();
        for (int seat = 0; seat < 9; seat++) {
            if ((set >> seat & 1) == 1) {
                seats.add(seat);
            }
        }
        return seats;
    }
}
