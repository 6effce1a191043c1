public final class Promise13BestTest {
    public static void main(String[] args) {
        shortOnesGoAhead();
        ofLikeOnesTheFirstByNumbers();
        steamGoesByWhenTheyAreBrewed();
        ofLikeBrewedOnesByTheOrder();
        nothingElseCounts();
        whereThereIsNone();
        Due.end();
    }

    private static void due(String name, CupByCup x, int sum, int... order) {
        for (int k = 0; k < order.length; k++) {
            Due.is(name + ": best(" + k + ")", x.best(k), order[k]);
        }
        Due.is(name + ": best behind the last", x.best(order.length), -1);
        Due.is(name + ": sum()", x.sum(), sum);
    }

    private static CupByCup withCups(int groups, int... whats) {
        CupByCup x = new CupByCup(groups, 6);
        for (int i = 0; i < whats.length; i++) {
            x.recipe(whats[i], 50000);
            x.order(i, 1, i % 2);
        }
        return x;
    }

    private static void shortOnesGoAhead() {
        due("long and short", withCups(1, 10930000, 10101000), 42, 1, 0);
        due("three", withCups(1, 10530000, 10320000, 10110000), 11 + 31 + 61, 2, 1, 0);
        due("the last one of all orders",
                withCups(1, 10130000, 10120000, 10110000, 10105000, 10101000),
                2 + 7 + 17 + 37 + 67, 4, 3, 2, 1, 0);
        due("one", withCups(1, 10304100), 17, 0);
    }

    private static void ofLikeOnesTheFirstByNumbers() {
        int p = Due.PLAIN;
        due("five, one group", withCups(1, p, p, p, p, p), 55, 0, 1, 2, 3, 4);
        due("five, two groups", withCups(2, p, p, p, p, p), 45, 0, 1, 2, 3, 4);
        due("like ones behind a short one", withCups(1, p, p, 10101000), 2 + 6 + 9, 2, 0, 1);
    }

    private static void steamGoesByWhenTheyAreBrewed() {
        due("two groups", withCups(2, 10130200, 10101010), 55, 0, 1);
        due("the wand is waited for", withCups(2, 12304100, 12304100), 17 + 27, 0, 1);
    }

    private static void ofLikeBrewedOnesByTheOrder() {
        due("both brewed at 6", withCups(2, 10203100, 10105010), 24, 1, 0);
        due("both brewed at 6, other numbers", withCups(2, 10105100, 10203010), 24, 1, 0);
    }

    private static void nothingElseCounts() {
        CupByCup x = Due.full(1, 6);
        x.order(1, 2, 0);
        x.go(1);
        x.fault(0, 100);
        x.order(0, 1, 1);
        due("one is ground, the group is at fault", x, 5 + 19, 2, 1);
        x.alter(0, 30930000, 250000);
        due("a cup keeps its recipe", x, 24, 2, 1);
        x.take(2);
        due("one is taken back", x, 17, 1);
        x.order(0, 1, 0);
        due("a cup of the altered recipe", x, 17 + 42, 1, 3);
    }

    private static void whereThereIsNone() {
        CupByCup x = Due.empty(2, 30);
        Due.is("best(0) without cups", x.best(0), -1);
        Due.is("best(-1) without cups", x.best(-1), -1);
        x.order(0, 6, 0);
        Due.is("best(0) of six", x.best(0), -1);
        Due.is("best(5) of six", x.best(5), -1);
        x.take(3);
        Due.is("best(3) of five", x.best(3), 4);
        Due.is("best(4) of five", x.best(4), 5);
        int[] wrong = {-1, 5, Integer.MIN_VALUE, Integer.MAX_VALUE};
        for (int k : wrong) {
            Due.is("best(" + k + ") of five", x.best(k), -1);
        }
        for (int cup = 0; cup < 6; cup++) {
            x.take(cup);
        }
        Due.is("best(0) of none", x.best(0), -1);
    }
}
