import java.util.Arrays;
import java.util.Random;

public final class Promise14SumTest {
    private static int least;
    // Of the orders with the least sum the first one by numbers.
    private static int[] first;

    public static void main(String[] args) {
        whereThereIsNone();
        theLeastOfAllOrders();
        Due.end();
    }

    private static void whereThereIsNone() {
        CupByCup x = Due.empty(1, 30);
        Due.is("sum() without cups", x.sum(), -1);
        x.order(0, 6, 0);
        Due.is("sum() of six", x.sum(), -1);
        x.take(0);
        Due.is("sum() of five", x.sum(), 55);
        x.store(0, 10);
        x.go(1);
        Due.is("sum() of four", x.sum(), 5 + 8 + 11 + 14);
        for (int cup = 2; cup < 6; cup++) {
            x.take(cup);
        }
        Due.is("sum() of none that wait", x.sum(), -1);
    }

    private static void theLeastOfAllOrders() {
        Random random = new Random(14);
        for (int run = 0; run < 300; run++) {
            int groups = 1 + random.nextInt(3);
            int n = 1 + random.nextInt(5);
            CupByCup x = new CupByCup(groups, 30);
            int[][] cups = new int[n][];
            for (int i = 0; i < n; i++) {
                // Few kinds of cups, so that many orders have like sums.
                int[] c = {1 + random.nextInt(run % 9 + 1), 1 + random.nextInt(run % 30 + 1),
                    random.nextInt(run % 21 + 1), i};
                cups[i] = c;
                x.recipe(10000000 + c[0] * 100000 + c[1] * 1000 + c[2] * 10, 50000);
                x.order(i, 1, random.nextInt(2));
            }
            least = Integer.MAX_VALUE;
            tryAll(cups, 0, groups);
            Due.is("sum() of run " + run, x.sum(), least);
            for (int k = 0; k < n; k++) {
                Due.is("best(" + k + ") of run " + run, x.best(k), first[k]);
            }
        }
    }

    private static void tryAll(int[][] cups, int at, int groups) {
        if (at == cups.length) {
            keepBest(cups, tickByTick(cups, groups));
        }
        for (int i = at; i < cups.length; i++) {
            swap(cups, at, i);
            tryAll(cups, at + 1, groups);
            swap(cups, at, i);
        }
    }

    private static void keepBest(int[][] cups, int sum) {
        int[] order = new int[cups.length];
        for (int i = 0; i < order.length; i++) {
            order[i] = cups[i][3];
        }
        if (sum < least || sum == least && Arrays.compare(order, first) < 0) {
            least = sum;
            first = order;
        }
    }

    private static void swap(int[][] cups, int a, int b) {
        int[] kept = cups[a];
        cups[a] = cups[b];
        cups[b] = kept;
    }

    /** The order gone through tick by tick: another way than the class has, to the same sum. */
    private static int tickByTick(int[][] cups, int groups) {
        int n = cups.length;
        int[] left = new int[n];
        int[] at = new int[n];
        int[] brewed = new int[n];
        int done = 0;
        int total = 0;
        for (int tick = 0; done < n; tick++) {
            for (int i = 0; i < n; i++) {
                if (at[i] % 2 == 1 && --left[i] == 0) {
                    at[i]++;
                    brewed[i] = at[i] == 4 ? tick : brewed[i];
                    at[i] = at[i] == 4 && cups[i][2] == 0 ? 6 : at[i];
                    done += at[i] == 6 ? 1 : 0;
                    total += at[i] == 6 ? tick : 0;
                }
            }
            begin(cups, at, left, brewed, groups);
        }
        return total;
    }

    private static void begin(int[][] cups, int[] at, int[] left, int[] brewed, int groups) {
        int steams = -1;
        for (int i = 0; i < at.length; i++) {
            if (at[i] == 0 && number(at, 1) == 0) {
                at[i] = 1;
                left[i] = cups[i][0];
            }
            if (at[i] == 2 && number(at, 3) < groups) {
                at[i] = 3;
                left[i] = cups[i][1];
            }
            if (at[i] == 4 && (steams < 0 || brewed[i] < brewed[steams])) {
                steams = i;
            }
        }
        if (steams >= 0 && number(at, 5) == 0) {
            at[steams] = 5;
            left[steams] = cups[steams][2];
        }
    }

    private static int number(int[] at, int which) {
        int n = 0;
        for (int a : at) {
            n += a == which ? 1 : 0;
        }
        return n;
    }
}
