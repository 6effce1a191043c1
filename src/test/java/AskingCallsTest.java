/** cup, group, best, sum and count tell and change nothing, whatever they are asked for. */
public final class AskingCallsTest {
    public static void main(String[] args) {
        for (AtWork machine : AtWork.values()) {
            machine.changesNothing("asked for cups", x -> askForCups(x));
            machine.changesNothing("asked for groups", x -> askForGroups(x));
            machine.changesNothing("asked for plans", x -> askForPlans(x));
            machine.changesNothing("asked for counts", x -> askForCounts(x));
        }
        Due.end();
    }

    private static void askForCups(CupByCup x) {
        for (int what = -1; what <= 8; what++) {
            for (int cup : new int[] {-1, 0, 1, 9, 94, 100}) {
                x.cup(cup, what);
            }
        }
    }

    private static void askForGroups(CupByCup x) {
        for (int group = -1; group <= 3; group++) {
            for (int what = -1; what <= 4; what++) {
                x.group(group, what);
            }
        }
    }

    private static void askForPlans(CupByCup x) {
        for (int k = -1; k <= 6; k++) {
            x.best(k);
            x.sum();
        }
    }

    private static void askForCounts(CupByCup x) {
        for (int what = -1; what <= 13; what++) {
            x.count(what);
        }
    }
}
