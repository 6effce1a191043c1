public final class Promise15CountTest {
    public static void main(String[] args) {
        allThatIsCounted();
        theLongest();
        othersAreRefused();
        Due.end();
    }

    private static void row(String when, CupByCup x, int[] due) {
        for (int what = 0; what < due.length; what++) {
            Due.is(when + ": count(" + what + ")", x.count(what), due[what]);
        }
    }

    private static void allThatIsCounted() {
        CupByCup x = new CupByCup(2, 30);
        x.recipe(10203000, 50000);
        x.recipe(12304100, 60080);
        x.store(0, 1000);
        x.store(1, 2000);
        x.store(2, 3000);
        row("stores", x, new int[] {0, 900, 0, 0, 0, 0, 1000, 2000, 3000, 0, 0, 50, 0});
        x.order(1, 2, 0);
        x.order(0, 1, 0);
        x.tell(104, 100);
        row("orders", x, new int[] {0, 900, 0, 3, 0, 3, 1000, 2000, 3000, 0, 0, 51, 0});
        x.go(1);
        row("grinds", x, new int[] {1, 913, 4, 3, 0, 2, 988, 2000, 3000, 0, 0, 51, 0});
        x.go(3);
        row("brews and grinds", x, new int[] {4, 947, 6, 3, 0, 1, 976, 1940, 3000, 0, 0, 51, 0});
        x.go(3);
        row("two brew, one is ground", x,
                new int[] {7, 952, 8, 3, 0, 0, 966, 1880, 3000, 0, 0, 51, 0});
        x.go(1);
        row("one steams", x, new int[] {8, 952, 9, 3, 0, 0, 966, 1880, 2920, 0, 0, 51, 0});
        x.fault(1, 1);
        row("one is spoilt", x, new int[] {8, 952, 7, 3, 0, 1, 966, 1880, 2920, 12, 0, 51, 0});
        x.go(10);
        Due.is("the first one is done", x.cup(0, 4), 17);
        Due.is("done", x.count(4), 2);
        Due.is("the longest", x.count(12), 17);
        x.go(100);
        Due.is("done", x.count(4), 3);
        Due.is("rinses", x.count(10), 0);
    }

    private static void theLongest() {
        CupByCup x = Due.empty(1, 30);
        x.go(10);
        x.order(0, 1, 0);
        x.go(90);
        Due.is("none is done", x.count(12), 0);
        for (int store = 0; store < 3; store++) {
            x.store(store, 1000);
        }
        x.go(6);
        Due.is("from its coming on", x.count(12), 95);
        x.order(0, 1, 0);
        x.go(6);
        Due.is("a shorter one", x.count(12), 95);
        Due.is("done", x.count(4), 2);
        x.order(0, 1, 0);
        x.take(2);
        x.go(200);
        Due.is("one that was taken back", x.count(12), 95);
    }

    private static void othersAreRefused() {
        CupByCup x = Due.full(1, 30);
        int[] wrong = {-1, 13, Integer.MIN_VALUE, Integer.MAX_VALUE};
        for (int what : wrong) {
            Due.is("count(" + what + ")", x.count(what), -1);
        }
    }
}
