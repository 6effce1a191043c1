public final class Promise09LimitTest {
    public static void main(String[] args) {
        itIsAnotherOne();
        whatGoesOnGoesOn();
        othersAreRefused();
        Due.end();
    }

    private static void itIsAnotherOne() {
        CupByCup x = Due.full(1, 30);
        x.order(0, 1, 0);
        Due.yes("limit(9)", x.limit(9));
        x.go(1);
        Due.is("5 left: not heated", x.count(1), 899);
        Due.yes("limit(10)", x.limit(10));
        x.go(1);
        Due.is("6 left: heated", x.count(1), 912);
        Due.yes("limit(6)", x.limit(6));
        Due.yes("limit(30)", x.limit(30));
    }

    private static void whatGoesOnGoesOn() {
        CupByCup x = Due.full(1, 30);
        x.recipe(10930000, 50000);
        x.order(2, 3, 0);
        x.go(10);
        Due.is("brews and grinds", x.count(2), 6);
        x.fault(0, 1);
        x.go(1);
        Due.is("grinds", x.count(2), 4);
        x.limit(6);
        x.go(3);
        Due.is("goes on", x.cup(1, 6), 5);
        x.go(5);
        Due.is("brews, and the next one is ground", x.count(2), 6);

        CupByCup above = Due.full(3, 30);
        above.recipe(5130000, 10000);
        above.recipe(5930000, 10000);
        above.order(2, 3, 0);
        above.order(3, 1, 0);
        above.go(4);
        Due.is("three brew, one is ground", above.count(2), 10);
        Due.is("heat", above.count(1), 922);
        above.limit(6);
        Due.is("power as it was", above.count(2), 10);
        above.go(1);
        Due.is("power goes on above the limit", above.count(2), 10);
        Due.is("no heating above the limit", above.count(1), 906);
        above.go(8);
        Due.is("the grinder has ended", above.count(2), 6);
    }

    private static void othersAreRefused() {
        CupByCup x = Due.full(1, 9);
        int[] wrong = {5, 31, 0, -1, Integer.MIN_VALUE, Integer.MAX_VALUE};
        for (int limit : wrong) {
            Due.no("limit(" + limit + ")", x.limit(limit));
        }
        x.order(0, 1, 0);
        x.go(1);
        Due.is("the limit is 9 yet", x.count(1), 899);
    }
}
