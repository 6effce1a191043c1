import java.util.Random;

/**
 * Runs of up to 512 calls with any arguments: none throws, what is refused changes nothing,
 * and what the calls tell fits together.
 */
public final class AnyCallsTest {
    private static final int RUNS = 60;
    private static final int CALLS = 512;
    private static final int DONE = 0;
    private static final int REFUSED = 1;

    private static Random random;

    public static void main(String[] args) {
        for (int run = 0; run < RUNS; run++) {
            random = new Random(run);
            CupByCup x = new CupByCup(any(1, 3), any(6, 14));
            x.recipe(anyWhat(), anyWet());
            for (int call = 0; call < CALLS; call++) {
                String before = Due.seen(x);
                int kind = random.nextInt(9);
                if (callOne(x, kind) == REFUSED) {
                    Due.yes("run " + run + ", call " + call + " of kind " + kind
                            + " was refused and changes nothing", Due.seen(x).equals(before));
                }
                fitsTogether("run " + run + ", call " + call, x);
            }
        }
        Due.end();
    }

    /** Most often in the range, sometimes beside it or far from it. */
    private static int any(int least, int most) {
        switch (random.nextInt(25)) {
            case 0: return least - 1;
            case 1: return most + 1;
            case 2: return random.nextInt();
            case 3: return random.nextBoolean() ? Integer.MIN_VALUE : Integer.MAX_VALUE;
            default: return least + random.nextInt(most - least + 1);
        }
    }

    private static int anyWhat() {
        return any(5, 30) * 1000000 + any(1, 4) * 100000 + any(1, 9) * 1000
                + (random.nextBoolean() ? 0 : any(1, 9) * 10);
    }

    private static int anyWet() {
        return any(10, 60) * 1000 + (random.nextBoolean() ? 0 : any(0, 99));
    }

    private static int callOne(CupByCup x, int kind) {
        switch (kind) {
            case 0: return x.recipe(anyWhat(), anyWet()) < 0 ? REFUSED : DONE;
            case 1: return x.alter(any(0, 3), anyWhat(), anyWet()) ? DONE : REFUSED;
            case 2: return x.store(any(0, 2), any(1, 300)) < 0 ? REFUSED : DONE;
            case 3: return x.order(any(0, 3), any(1, 6), any(0, 1)) < 0 ? REFUSED : DONE;
            case 4: return x.take(any(0, 99)) ? DONE : REFUSED;
            case 5: return x.go(any(0, 30)) < 0 ? REFUSED : DONE;
            case 6: return x.fault(any(0, 2), any(1, 20)) ? DONE : REFUSED;
            case 7: return x.limit(any(6, 14)) ? DONE : REFUSED;
            default: return x.tell(any(0, 1000), any(0, 1000)) < 0 ? REFUSED : DONE;
        }
    }

    private static void fitsTogether(String when, CupByCup x) {
        int[] cupsThat = new int[8];
        int longest = 0;
        for (int cup = 0; cup < x.count(3); cup++) {
            int how = x.cup(cup, 0);
            cupsThat[how]++;
            Due.is(when + ": a tick in which it was done", x.cup(cup, 4) >= 0 ? 1 : 0, how == 6 ? 1 : 0);
            Due.is(when + ": its group", x.cup(cup, 5) >= 0 ? 1 : 0, how == 3 ? 1 : 0);
            boolean goesOn = how == 1 || how == 3 || how == 5;
            Due.is(when + ": its ticks to go", x.cup(cup, 6) > 0 ? 1 : 0, goesOn ? 1 : 0);
            if (how == 3) {
                Due.is(when + ": its group's ticks", x.group(x.cup(cup, 5), 1), x.cup(cup, 6));
            }
            longest = how == 6 ? Math.max(longest, x.cup(cup, 4) - x.cup(cup, 3)) : longest;
        }
        int brewing = 0;
        int rinsing = 0;
        for (int group = 0; group < 3; group++) {
            brewing += x.group(group, 0) == 1 ? 1 : 0;
            rinsing += x.group(group, 0) == 2 ? 1 : 0;
            Due.yes(when + ": due is 10 at most", x.group(group, 2) <= 10);
        }
        Due.is(when + ": cups that wait", x.count(5), cupsThat[0]);
        Due.is(when + ": cups that are done", x.count(4), cupsThat[6]);
        Due.is(when + ": cups that brew", brewing, cupsThat[3]);
        Due.yes(when + ": one grinder, one wand", cupsThat[1] <= 1 && cupsThat[5] <= 1);
        Due.is(when + ": power", x.count(2),
                4 * cupsThat[1] + 2 * (brewing + rinsing) + 3 * cupsThat[5]);
        Due.is(when + ": longest", x.count(12), longest);
        boolean planned = cupsThat[0] >= 1 && cupsThat[0] <= 5;
        Due.yes(when + ": planned", (x.sum() >= 0) == planned && (x.best(0) >= 0) == planned);
    }
}
