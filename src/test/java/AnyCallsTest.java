import java.util.ArrayList;
import java.util.List;
import java.util.Random;

/**
 * Runs of calls with any arguments: none throws, what is refused changes nothing, and what the
 * calls tell fits together. A machine is made anew, by the same calls, whenever it is looked at,
 * so that no object is used for more than 512 calls.
 */
public final class AnyCallsTest {
    private static final int RUNS = 60;
    private static final int CALLS = 512 - Seen.MOST_CALLS_OF_A_PART;
    private static final int CALLS_FROM_LOOK_TO_LOOK = 29;

    private static Random random;

    public static void main(String[] args) {
        for (int run = 0; run < RUNS; run++) {
            random = new Random(run);
            oneRun("run " + run);
        }
        Due.end();
    }

    private static void oneRun(String name) {
        int groups = any(1, 3);
        int limit = any(6, 14);
        List<int[]> all = new ArrayList<>();
        List<int[]> notRefused = new ArrayList<>();
        CupByCup x = new CupByCup(groups, limit);
        for (int i = 0; i < CALLS; i++) {
            int[] call = i == 0 ? anyCall(0) : anyCall(random.nextInt(9));
            all.add(call);
            if (!isRefused(x, call)) {
                notRefused.add(call);
            }
            if (i % CALLS_FROM_LOOK_TO_LOOK == 0 || i == CALLS - 1) {
                Seen seen = new Seen(() -> made(groups, limit, all));
                Seen.same(name + ", call " + i + ": without what was refused", seen,
                        new Seen(() -> made(groups, limit, notRefused)));
                fitsTogether(name + ", call " + i, seen);
            }
        }
    }

    private static CupByCup made(int groups, int limit, List<int[]> calls) {
        CupByCup x = new CupByCup(groups, limit);
        for (int[] call : calls) {
            isRefused(x, call);
        }
        return x;
    }

    /** Most often in the range, sometimes beside it or far from it. */
    private static int any(int least, int most) {
        switch (random.nextInt(25)) {
            case 0: return least - 1;
            case 1: return most + 1;
            case 2: return random.nextInt();
            case 3: return random.nextBoolean() ? Integer.MIN_VALUE : Integer.MAX_VALUE;
            default: return least + random.nextInt(most - least + 1);
        }
    }

    private static int anyWhat() {
        return any(5, 30) * 1000000 + any(1, 4) * 100000 + any(1, 9) * 1000
                + (random.nextBoolean() ? 0 : any(1, 9) * 10);
    }

    private static int anyWet() {
        return any(10, 60) * 1000 + (random.nextBoolean() ? 0 : any(0, 99));
    }

    /** Its kind and its arguments. */
    private static int[] anyCall(int kind) {
        switch (kind) {
            case 0: return new int[] {kind, anyWhat(), anyWet()};
            case 1: return new int[] {kind, any(0, 3), anyWhat(), anyWet()};
            case 2: return new int[] {kind, any(0, 2), any(1, 300)};
            case 3: return new int[] {kind, any(0, 3), any(1, 6), any(0, 1)};
            case 4: return new int[] {kind, any(0, 99)};
            case 5: return new int[] {kind, any(0, 30)};
            case 6: return new int[] {kind, any(0, 2), any(1, 20)};
            case 7: return new int[] {kind, any(6, 14)};
            default: return new int[] {kind, any(0, 1000), any(0, 1000)};
        }
    }

    private static boolean isRefused(CupByCup x, int[] call) {
        switch (call[0]) {
            case 0: return x.recipe(call[1], call[2]) < 0;
            case 1: return !x.alter(call[1], call[2], call[3]);
            case 2: return x.store(call[1], call[2]) < 0;
            case 3: return x.order(call[1], call[2], call[3]) < 0;
            case 4: return !x.take(call[1]);
            case 5: return x.go(call[1]) < 0;
            case 6: return !x.fault(call[1], call[2]);
            case 7: return !x.limit(call[1]);
            default: return x.tell(call[1], call[2]) < 0;
        }
    }

    private static void fitsTogether(String when, Seen seen) {
        int[] cupsThat = new int[8];
        int longest = 0;
        for (int[] cup : seen.cups) {
            cupsThat[cup[0]]++;
            cupFits(when, seen, cup);
            longest = cup[0] == 6 ? Math.max(longest, cup[4] - cup[3]) : longest;
        }
        int brewing = 0;
        int rinsing = 0;
        for (int[] group : seen.groups) {
            brewing += group[0] == 1 ? 1 : 0;
            rinsing += group[0] == 2 ? 1 : 0;
            Due.yes(when + ": due is 10 at most", group[2] <= 10);
        }
        Due.is(when + ": cups that wait", seen.counts[5], cupsThat[0]);
        Due.is(when + ": cups that are done", seen.counts[4], cupsThat[6]);
        Due.is(when + ": cups that brew", brewing, cupsThat[3]);
        Due.yes(when + ": one grinder, one wand", cupsThat[1] <= 1 && cupsThat[5] <= 1);
        Due.is(when + ": power", seen.counts[2],
                4 * cupsThat[1] + 2 * (brewing + rinsing) + 3 * cupsThat[5]);
        Due.is(when + ": longest", seen.counts[12], longest);
        boolean planned = cupsThat[0] >= 1 && cupsThat[0] <= 5;
        Due.yes(when + ": planned", seen.sum >= 0 == planned);
        for (int k = 0; k < seen.best.length; k++) {
            Due.yes(when + ": best " + k, seen.best[k] >= 0 == (planned && k < cupsThat[0]));
        }
    }

    private static void cupFits(String when, Seen seen, int[] cup) {
        int how = cup[0];
        boolean goesOn = how == 1 || how == 3 || how == 5;
        Due.yes(when + ": a tick in which it was done", cup[4] >= 0 == (how == 6));
        Due.yes(when + ": its group", cup[5] >= 0 == (how == 3));
        Due.yes(when + ": its ticks to go", cup[6] > 0 == goesOn);
        if (how == 3) {
            Due.is(when + ": its group's ticks", seen.groups[cup[5]][1], cup[6]);
        }
    }
}
