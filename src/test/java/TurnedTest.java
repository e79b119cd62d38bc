/** Promise 24: against going through every way. */
public final class TurnedTest {
    public static void main(String[] args) {
        Check check = new Check();
        LostTicket x = new LostTicket();
        for (int n = 1; n <= 6; n++) {
            for (int k = 0; k <= n; k++) {
                Naive.Ratio mean = Naive.turned(n, k);
                check.due("turned " + n + " " + k + " above", x.turned(n, k, 0), mean.part(0));
                check.due("turned " + n + " " + k + " below", x.turned(n, k, 1), mean.part(1));
            }
        }
        check.due("nine, eight lost", x.turned(9, 8, 0), 8);
        check.due("nine, eight lost", x.turned(9, 8, 1), 9);
        check.due("nine, one lost", x.turned(9, 1, 0), 4609);
        check.due("nine, one lost", x.turned(9, 1, 1), 2520);
        check.due("nine, all lost", x.turned(9, 9, 0), 0);
        check.due("nine, all lost", x.turned(9, 9, 1), 1);
        int[][] bad = {{0, 0, 0}, {-1, -1, 0}, {10, 1, 0}, {3, -1, 0}, {3, 4, 0}, {3, 1, -1},
            {3, 1, 2}, {Integer.MAX_VALUE, 1, 0}, {3, Integer.MIN_VALUE, 0}};
        for (int[] b : bad) {
            check.due("turned BAD", x.turned(b[0], b[1], b[2]), Long.MIN_VALUE + 2);
        }
        check.end("TurnedTest");
    }
}
