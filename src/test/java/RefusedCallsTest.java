/** "What is refused changes nothing.": a machine is asked for all that can't be. */
public final class RefusedCallsTest {
    private static final int[] FAR = {Integer.MIN_VALUE, Integer.MAX_VALUE};
    // So that no machine is used for more than 512 calls.
    private static final int MOST_CUPS_TAKEN = 30;

    public static void main(String[] args) {
        AtWork.ROOMY.changesNothing("refused", x -> refuse(x));
        AtWork.FULL.changesNothing("refused", x -> refuse(x));
        AtWork.FULL.changesNothing("refused, as it is full", x -> refuseMore(x));
        whatIsRefusedIsSeen();
        aMachineWithoutAnything();
        Due.end();
    }

    private static void none(String call, int answer) {
        Due.is(call, answer, -1);
    }

    private static void refuse(CupByCup x) {
        refuseRecipes(x);
        refuseStores(x);
        refuseOrders(x);
        refuseTakes(x);
        refuseTheRest(x);
    }

    private static void refuseRecipes(CupByCup x) {
        int[][] wrong = {
            {Due.what(4, 2, 3, 4), 50060}, {Due.what(31, 2, 3, 4), 50060},
            {Due.what(10, 0, 3, 4), 50060}, {Due.what(10, 2, 0, 4), 50060},
            {Due.what(10, 2, 31, 4), 50060}, {Due.what(10, 2, 3, 21), 50060},
            {Due.what(10, 2, 3, 4) + 1, 50060}, {Due.what(10, 2, 3, 4) - 1, 50060},
            {Due.what(10, 2, 3, 4), 9060}, {Due.what(10, 2, 3, 4), 251060},
            {Due.what(10, 2, 3, 4), 50251}, {Due.what(10, 2, 3, 0), 50001},
            {-Due.what(10, 2, 3, 4), 50060}, {Due.what(10, 2, 3, 4), -50060}, {0, 0},
        };
        for (int[] pair : wrong) {
            String call = "(" + pair[0] + ", " + pair[1] + ")";
            none("recipe" + call, x.recipe(pair[0], pair[1]));
            Due.no("alter 0 " + call, x.alter(0, pair[0], pair[1]));
        }
        for (int recipe : new int[] {-1, 8, FAR[0], FAR[1]}) {
            Due.no("alter(" + recipe + ", ..)", x.alter(recipe, Due.PLAIN, Due.PLAIN_WET));
        }
    }

    private static void refuseStores(CupByCup x) {
        for (int which : new int[] {-1, 3, FAR[0], FAR[1]}) {
            none("store(" + which + ", 5)", x.store(which, 5));
        }
        for (int which = 0; which < 3; which++) {
            for (int n : new int[] {-1, 0, 10001, FAR[0], FAR[1]}) {
                none("store(" + which + ", " + n + ")", x.store(which, n));
            }
        }
    }

    private static void refuseOrders(CupByCup x) {
        for (int n : new int[] {-1, 8, FAR[0], FAR[1]}) {
            none("order of recipe " + n, x.order(n, 1, 0));
        }
        for (int n : new int[] {-1, 0, 7, FAR[0], FAR[1]}) {
            none("order of cups " + n, x.order(0, n, 0));
        }
        for (int n : new int[] {-1, 2, FAR[0], FAR[1]}) {
            none("order of lane " + n, x.order(0, 1, n));
        }
    }

    private static void refuseTakes(CupByCup x) {
        int cups = x.count(3);
        for (int cup : new int[] {-1, cups, 100, FAR[0], FAR[1]}) {
            Due.no("take(" + cup + ")", x.take(cup));
        }
        for (int cup = 0; cup < Math.min(MOST_CUPS_TAKEN, cups); cup++) {
            int how = x.cup(cup, 0);
            if (how != 0 && how != 2) {
                Due.no("take of one that is " + how, x.take(cup));
            }
        }
    }

    private static void refuseTheRest(CupByCup x) {
        for (int n : new int[] {-1, 501, FAR[0], FAR[1]}) {
            none("go(" + n + ")", x.go(n));
        }
        for (int n : new int[] {-1, 3, FAR[0], FAR[1]}) {
            Due.no("fault(" + n + ", 5)", x.fault(n, 5));
        }
        for (int n : new int[] {-1, 0, 201, FAR[0], FAR[1]}) {
            Due.no("fault(0, " + n + ")", x.fault(0, n));
        }
        for (int n : new int[] {-1, 0, 5, 31, FAR[0], FAR[1]}) {
            Due.no("limit(" + n + ")", x.limit(n));
        }
        for (int n : new int[] {-1, 1001, FAR[0], FAR[1]}) {
            none("tell(" + n + ", 0)", x.tell(n, 0));
            none("tell(1000, " + n + ")", x.tell(1000, n));
        }
    }

    /** Of a machine with 8 recipes, 95 cups at least and more than 90000 grams in each store. */
    private static void refuseMore(CupByCup x) {
        none("a ninth recipe", x.recipe(Due.PLAIN, Due.PLAIN_WET));
        none("another one", x.recipe(Due.MILKY, Due.MILKY_WET));
        for (int store = 0; store < 3; store++) {
            none("store(" + store + ", 10000)", x.store(store, 10000));
            int room = 100000 - x.count(6 + store);
            none("a gram too many in " + store, x.store(store, room + 1));
        }
        for (int n = 101 - x.count(3); n <= 6; n++) {
            none("order(0, " + n + ", 0)", x.order(0, n, 0));
            none("order(7, " + n + ", 1)", x.order(7, n, 1));
        }
    }

    /** What must go on in the two machines at work, so that the tests above tell something. */
    private static void whatIsRefusedIsSeen() {
        for (AtWork machine : AtWork.values()) {
            CupByCup x = machine.at(150);
            Due.yes(machine + ": cups are done", x.count(4) >= 20);
            Due.yes(machine + ": beans are spoilt", x.count(9) > 0);
            Due.yes(machine + ": rinses are done", x.count(10) >= 2);
            Due.no(machine + ": the setting at first", x.count(11) == 50);
            Due.is(machine + ": cup 0 was thrown away", x.cup(0, 7), 1);
        }
        CupByCup full = AtWork.FULL.at(150);
        for (int cup = 95; cup < 100; cup++) {
            Due.is("FULL: a cup that came later is done", full.cup(cup, 0), 6);
        }
    }

    private static void aMachineWithoutAnything() {
        CupByCup x = new CupByCup(3, 30);
        CupByCup other = new CupByCup(3, 30);
        refuse(x);
        none("order(0, 1, 0)", x.order(0, 1, 0));
        Due.no("alter(0, ..)", x.alter(0, Due.PLAIN, Due.PLAIN_WET));
        Due.no("take(0)", x.take(0));
        none("best(0)", x.best(0));
        none("sum()", x.sum());
        none("cup(0, 0)", x.cup(0, 0));
        Due.same("without anything", x, other);
        Due.is("the first recipe", x.recipe(Due.PLAIN, Due.PLAIN_WET), 0);
        Due.is("the first cup", x.order(0, 1, 0), 0);
        Due.is("grams", x.store(0, 1), 1);
    }
}
