/**
 * "What is refused changes nothing.": of two like machines one is asked, ahead of each tick, for
 * all that can't be; both go on alike, whatever comes later.
 */
public final class RefusedCallsTest {
    private static final int[] FAR = {Integer.MIN_VALUE, Integer.MAX_VALUE};

    public static void main(String[] args) {
        aMachineAtWork();
        aMachineThatIsFull();
        aMachineWithoutAnything();
        Due.end();
    }

    private static void none(String call, int answer) {
        Due.is(call, answer, -1);
    }

    private static void aMachineAtWork() {
        CupByCup x = atWork();
        CupByCup other = atWork();
        for (int tick = 0; tick < 150; tick++) {
            refuse(x);
            Due.same("refused ahead of tick " + tick, x, other);
            later(x, tick);
            later(other, tick);
            Due.same("behind tick " + tick, x, other);
        }
    }

    private static CupByCup atWork() {
        CupByCup x = Due.stocked(2, 12, 300, 1500, 500);
        x.recipe(Due.PLAIN, Due.PLAIN_WET);
        x.recipe(Due.MILKY, Due.MILKY_WET);
        x.recipe(Due.what(5, 1, 2, 0), Due.wet(10, 0));
        x.order(0, 2, 1);
        x.order(1, 2, 0);
        x.order(2, 6, 0);
        return x;
    }

    /** What both machines are asked for alike, so that a hidden change would come to light. */
    private static void later(CupByCup x, int tick) {
        switch (tick) {
            case 6: x.fault(1, 4); break;
            case 20: x.order(2, 6, 1); break;
            case 40: x.recipe(Due.what(7, 2, 2, 2), Due.wet(20, 20)); break;
            case 41: x.order(3, 3, 0); break;
            case 50: x.alter(0, Due.what(6, 1, 1, 1), Due.wet(30, 30)); break;
            case 51: x.order(0, 5, 0); break;
            case 60: x.tell(511, 500); break;
            case 70: x.limit(9); break;
            case 80: x.store(0, 100); break;
            case 90: x.take(2); break;
            case 91: x.order(1, 6, 1); break;
            default: break;
        }
        x.go(1);
    }

    private static void refuse(CupByCup x) {
        refuseRecipes(x);
        refuseStores(x);
        refuseOrders(x);
        refuseTakes(x);
        refuseTheRest(x);
    }

    private static void refuseRecipes(CupByCup x) {
        int[][] wrong = {
            {Due.what(4, 2, 3, 4), 50060}, {Due.what(31, 2, 3, 4), 50060},
            {Due.what(10, 0, 3, 4), 50060}, {Due.what(10, 2, 0, 4), 50060},
            {Due.what(10, 2, 31, 4), 50060}, {Due.what(10, 2, 3, 21), 50060},
            {Due.what(10, 2, 3, 4) + 1, 50060}, {Due.what(10, 2, 3, 4) - 1, 50060},
            {Due.what(10, 2, 3, 4), 9060}, {Due.what(10, 2, 3, 4), 251060},
            {Due.what(10, 2, 3, 4), 50251}, {Due.what(10, 2, 3, 0), 50001},
            {-Due.what(10, 2, 3, 4), 50060}, {Due.what(10, 2, 3, 4), -50060}, {0, 0},
        };
        for (int[] pair : wrong) {
            String call = "(" + pair[0] + ", " + pair[1] + ")";
            none("recipe" + call, x.recipe(pair[0], pair[1]));
            Due.no("alter 0 " + call, x.alter(0, pair[0], pair[1]));
        }
        for (int recipe : new int[] {-1, 8, FAR[0], FAR[1]}) {
            Due.no("alter(" + recipe + ", ..)", x.alter(recipe, Due.PLAIN, Due.PLAIN_WET));
        }
    }

    private static void refuseStores(CupByCup x) {
        for (int which : new int[] {-1, 3, FAR[0], FAR[1]}) {
            none("store(" + which + ", 5)", x.store(which, 5));
        }
        for (int which = 0; which < 3; which++) {
            for (int n : new int[] {-1, 0, 10001, FAR[0], FAR[1]}) {
                none("store(" + which + ", " + n + ")", x.store(which, n));
            }
        }
    }

    private static void refuseOrders(CupByCup x) {
        for (int n : new int[] {-1, 8, FAR[0], FAR[1]}) {
            none("order of recipe " + n, x.order(n, 1, 0));
        }
        for (int n : new int[] {-1, 0, 7, FAR[0], FAR[1]}) {
            none("order of cups " + n, x.order(0, n, 0));
        }
        for (int n : new int[] {-1, 2, FAR[0], FAR[1]}) {
            none("order of lane " + n, x.order(0, 1, n));
        }
    }

    private static void refuseTakes(CupByCup x) {
        for (int cup : new int[] {-1, x.count(3), 100, FAR[0], FAR[1]}) {
            Due.no("take(" + cup + ")", x.take(cup));
        }
        for (int cup = 0; cup < x.count(3); cup++) {
            if (x.cup(cup, 0) != 0 && x.cup(cup, 0) != 2) {
                Due.no("take of one that is " + x.cup(cup, 0), x.take(cup));
            }
        }
    }

    private static void refuseTheRest(CupByCup x) {
        for (int n : new int[] {-1, 501, FAR[0], FAR[1]}) {
            none("go(" + n + ")", x.go(n));
        }
        for (int n : new int[] {-1, 3, FAR[0], FAR[1]}) {
            Due.no("fault(" + n + ", 5)", x.fault(n, 5));
        }
        for (int n : new int[] {-1, 0, 201, FAR[0], FAR[1]}) {
            Due.no("fault(0, " + n + ")", x.fault(0, n));
        }
        for (int n : new int[] {-1, 0, 5, 31, FAR[0], FAR[1]}) {
            Due.no("limit(" + n + ")", x.limit(n));
        }
        for (int n : new int[] {-1, 1001, FAR[0], FAR[1]}) {
            none("tell(" + n + ", 0)", x.tell(n, 0));
            none("tell(1000, " + n + ")", x.tell(1000, n));
        }
    }

    /** 8 recipes, 100 cups and 100000 grams in each store: nothing more comes. */
    private static CupByCup full() {
        CupByCup x = new CupByCup(3, 30);
        for (int i = 0; i < 8; i++) {
            x.recipe(Due.what(5 + i, 1, 1 + i, 0), Due.wet(10, 0));
        }
        for (int i = 0; i < 30; i++) {
            x.store(i % 3, 10000);
        }
        for (int i = 0; i < 20; i++) {
            x.order(i % 8, 5, i % 2);
        }
        return x;
    }

    private static void aMachineThatIsFull() {
        CupByCup x = full();
        CupByCup other = full();
        for (int store = 0; store < 3; store++) {
            none("store(" + store + ", 1)", x.store(store, 1));
            none("store(" + store + ", 10000)", x.store(store, 10000));
        }
        for (int n = 1; n <= 6; n++) {
            none("order(0, " + n + ", 0)", x.order(0, n, 0));
        }
        none("recipe", x.recipe(Due.PLAIN, Due.PLAIN_WET));
        refuse(x);
        Due.same("at first", x, other);
        for (int i = 0; i < 100; i++) {
            x.go(5);
            other.go(5);
            none("order(7, 1, 1)", x.order(7, 1, 1));
            none("recipe", x.recipe(Due.PLAIN, Due.PLAIN_WET));
            Due.same("at " + x.count(0), x, other);
        }
        Due.is("all are done", x.count(4), 100);
    }

    private static void aMachineWithoutAnything() {
        CupByCup x = new CupByCup(3, 30);
        CupByCup other = new CupByCup(3, 30);
        refuse(x);
        none("order(0, 1, 0)", x.order(0, 1, 0));
        Due.no("alter(0, ..)", x.alter(0, Due.PLAIN, Due.PLAIN_WET));
        Due.no("take(0)", x.take(0));
        none("best(0)", x.best(0));
        none("sum()", x.sum());
        none("cup(0, 0)", x.cup(0, 0));
        Due.same("at first", x, other);
        Due.is("the first recipe", x.recipe(Due.PLAIN, Due.PLAIN_WET), 0);
        Due.is("the first cup", x.order(0, 1, 0), 0);
        Due.is("grams", x.store(0, 1), 1);
    }
}
