import java.util.Arrays;
import java.util.function.Supplier;

/**
 * All that the calls without effect tell of a machine. Nothing is promised behind an object's
 * 512th call, so each part of it is asked of a machine that is made anew.
 */
final class Seen {
    static final int MOST_CALLS_OF_A_PART = 64;
    private static final int CUPS_OF_A_PART = 8;

    final int[] counts = new int[13];
    final int[][] groups = new int[3][4];
    final int[] best = new int[6];
    final int sum;
    final int[][] cups;

    Seen(Supplier<CupByCup> maker) {
        CupByCup x = maker.get();
        for (int what = 0; what < counts.length; what++) {
            counts[what] = x.count(what);
        }
        for (int group = 0; group < groups.length; group++) {
            for (int what = 0; what < 4; what++) {
                groups[group][what] = x.group(group, what);
            }
        }
        for (int k = 0; k < best.length; k++) {
            best[k] = x.best(k);
        }
        sum = x.sum();
        cups = new int[counts[3]][8];
        for (int from = 0; from < cups.length; from += CUPS_OF_A_PART) {
            seeCups(maker.get(), from, Math.min(cups.length, from + CUPS_OF_A_PART));
        }
    }

    private void seeCups(CupByCup x, int from, int to) {
        for (int cup = from; cup < to; cup++) {
            for (int what = 0; what < 8; what++) {
                cups[cup][what] = x.cup(cup, what);
            }
        }
    }

    static void same(String when, Supplier<CupByCup> maker, Supplier<CupByCup> other) {
        same(when, new Seen(maker), new Seen(other));
    }

    static void same(String when, Seen got, Seen due) {
        boolean alike = got.text().equals(due.text());
        Due.yes(when + " it is as another one"
                + (alike ? "" : ": seen " + got.text() + ", due is " + due.text()), alike);
    }

    private String text() {
        return Arrays.toString(counts) + Arrays.deepToString(groups) + Arrays.toString(best)
                + sum + Arrays.deepToString(cups);
    }
}
