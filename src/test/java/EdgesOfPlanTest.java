/** What is planned: the part "==== 4." of the document and promises 13 and 14, at their edges. */
public final class EdgesOfPlanTest {
    public static void main(String[] args) {
        oneToFiveThatWait();
        aCupGoesAndAnotherComes();
        numbersOfTheOrder();
        aGroupIsWaitedFor();
        theGroupThatIsFreeFirst();
        likeSumsGoByNumbers();
        theWandIsWaitedFor();
        withoutSteamTheWandIsFree();
        likeBrewedOnesGoByTheOrder();
        brewedEarlierGoesAheadOfTheOrder();
        leastAndMostTicks();
        fromNowOn();
        asIfNothingElseWere();
        onlyCupsThatWait();
        Due.end();
    }

    /** One cup of each recipe that is named, by its ticks to grind, to brew and to steam. */
    private static CupByCup withCups(int groups, int[]... cups) {
        CupByCup x = new CupByCup(groups, 6);
        for (int i = 0; i < cups.length; i++) {
            x.recipe(Due.what(10, cups[i][0], cups[i][1], cups[i][2]), Due.wet(50, 0));
            x.order(i, 1, 0);
        }
        return x;
    }

    private static void due(String name, CupByCup x, int sum, int... order) {
        for (int k = 0; k < order.length; k++) {
            Due.is(name + ": best(" + k + ")", x.best(k), order[k]);
        }
        Due.is(name + ": best(" + order.length + ")", x.best(order.length), -1);
        Due.is(name + ": sum()", x.sum(), sum);
    }

    private static int[] cup(int grind, int brew, int steam) {
        return new int[] {grind, brew, steam};
    }

    /** "for the CUPS that WAIT, if these are 1 to 5". */
    private static void oneToFiveThatWait() {
        int[] sums = {-1, 5, 13, 24, 38, 55, -1, -1};
        for (int n = 0; n <= 7; n++) {
            CupByCup x = Due.empty(1, 30);
            for (int i = 0; i < n; i++) {
                x.order(0, 1, i % 2);
            }
            Due.is("sum() of " + n, x.sum(), sums[n]);
            for (int k = -2; k <= 8; k++) {
                boolean isOne = n <= 5 && k >= 0 && k < n;
                Due.is("best(" + k + ") of " + n, x.best(k), isOne ? k : -1);
            }
        }
    }

    private static void aCupGoesAndAnotherComes() {
        CupByCup x = Due.empty(1, 30);
        x.order(0, 6, 0);
        Due.is("six", x.sum(), -1);
        x.take(0);
        due("five", x, 55, 1, 2, 3, 4, 5);
        x.order(0, 1, 0);
        Due.is("six again", x.sum(), -1);
        Due.is("best(0) of six", x.best(0), -1);
        x.store(0, 10);
        x.go(1);
        due("one is ground", x, 55, 2, 3, 4, 5, 6);
        for (int cup = 2; cup <= 5; cup++) {
            x.take(cup);
        }
        due("one", x, 5, 6);
        x.take(6);
        Due.is("none", x.sum(), -1);
        Due.is("best(0) of none", x.best(0), -1);
    }

    /** "the k-th of the BEST ORDER (from 0 on); NONE if .. no such k". */
    private static void numbersOfTheOrder() {
        CupByCup x = Due.empty(1, 30);
        x.order(0, 3, 0);
        int[] none = {-1, 3, 4, 5, 99, 256, 65536, Integer.MIN_VALUE, Integer.MAX_VALUE};
        for (int k : none) {
            Due.is("best(" + k + ")", x.best(k), -1);
        }
        Due.is("best(0)", x.best(0), 0);
        Due.is("best(2)", x.best(2), 2);
    }

    /** The first one is brewed at 6; the other one is ground at 5, 6 or 7. */
    private static void aGroupIsWaitedFor() {
        due("ground ahead of it", withCups(1, cup(1, 5, 0), cup(4, 1, 0)), 6 + 7, 0, 1);
        due("ground as it is free", withCups(1, cup(1, 5, 0), cup(5, 1, 0)), 6 + 7, 0, 1);
        due("ground behind it", withCups(1, cup(1, 5, 0), cup(6, 1, 0)), 6 + 8, 0, 1);
    }

    /** "or as a GROUP is free (the one that is free first)". */
    private static void theGroupThatIsFreeFirst() {
        int[][] cups = {cup(1, 2, 0), cup(1, 10, 0), cup(1, 30, 0)};
        due("three groups", withCups(3, cups), 3 + 12 + 33, 0, 1, 2);
        due("two groups", withCups(2, cups), 3 + 12 + 33, 0, 1, 2);
        due("one group", withCups(1, cups), 3 + 13 + 43, 0, 1, 2);
        int[][] long2 = {cup(1, 30, 0), cup(1, 30, 0), cup(1, 30, 0)};
        due("two groups, all long", withCups(2, long2), 31 + 32 + 61, 0, 1, 2);
        int[][] short1 = {cup(2, 10, 0), cup(2, 12, 0), cup(2, 14, 0)};
        due("the first group is free first", withCups(2, short1), 12 + 16 + 26, 0, 1, 2);
        int[][] later = {cup(1, 9, 0), cup(2, 3, 0), cup(9, 30, 0)};
        due("the second group is free first", withCups(2, later), 10 + 6 + 42, 0, 1, 2);
    }

    /** "of like ones the first one (by numbers)": grinding 3 is like, 2 and 4 are not. */
    private static void likeSumsGoByNumbers() {
        due("a lesser one", withCups(1, cup(1, 5, 0), cup(2, 1, 0)), 11, 1, 0);
        due("a like one", withCups(1, cup(1, 5, 0), cup(3, 1, 0)), 13, 0, 1);
        due("a greater one", withCups(1, cup(1, 5, 0), cup(4, 1, 0)), 13, 0, 1);
        due("a lesser one ahead", withCups(1, cup(2, 1, 0), cup(1, 5, 0)), 11, 0, 1);
        due("a like one ahead", withCups(1, cup(3, 1, 0), cup(1, 5, 0)), 13, 0, 1);
        due("a greater one ahead", withCups(1, cup(4, 1, 0), cup(1, 5, 0)), 13, 1, 0);
    }

    /** The first one steams till 7; the other one is brewed at 6, 7 or 8. */
    private static void theWandIsWaitedFor() {
        due("brewed ahead of it", withCups(2, cup(1, 1, 5), cup(1, 4, 1)), 7 + 8, 0, 1);
        due("brewed as it is free", withCups(2, cup(1, 1, 5), cup(1, 5, 1)), 7 + 8, 0, 1);
        due("brewed behind it", withCups(2, cup(1, 1, 5), cup(1, 6, 1)), 7 + 9, 0, 1);
    }

    private static void withoutSteamTheWandIsFree() {
        due("no steam", withCups(2, cup(1, 1, 20), cup(1, 1, 0)), 22 + 3, 0, 1);
        due("steam of 1", withCups(2, cup(1, 1, 20), cup(1, 1, 1)), 3 + 23, 1, 0);
    }

    /** "(CUPS by when they are BREWED, of like ones by the ORDER)": by 1, 0 both are brewed at 6. */
    private static void likeBrewedOnesGoByTheOrder() {
        due("like ones", withCups(2, cup(2, 3, 10), cup(1, 5, 1)), 7 + 17, 1, 0);
        due("not alike by 1, 0", withCups(2, cup(1, 5, 10), cup(2, 3, 1)), 6 + 18, 1, 0);
    }

    /** Ground first and brewed last, a cup steams last, whatever the order. */
    private static void brewedEarlierGoesAheadOfTheOrder() {
        due("one tick earlier", withCups(2, cup(1, 30, 20), cup(9, 20, 1)), 31 + 51, 0, 1);
    }

    /** Each part at its least and at its most. */
    private static void leastAndMostTicks() {
        due("all least", withCups(1, cup(1, 1, 0)), 2, 0);
        due("all least with steam", withCups(1, cup(1, 1, 1)), 3, 0);
        due("all most", withCups(1, cup(9, 30, 20)), 59, 0);
        int[][] five = new int[5][];
        for (int i = 0; i < 5; i++) {
            five[i] = cup(9, 30, 20);
        }
        due("five, all most, one group", withCups(1, five), 5 * 59 + 30 * 10, 0, 1, 2, 3, 4);
        due("five, all most, three groups", withCups(3, five), 59 + 79 + 99 + 119 + 139,
                0, 1, 2, 3, 4);
        for (int i = 0; i < 5; i++) {
            five[i] = cup(1, 1, 0);
        }
        due("five, all least", withCups(1, five), 2 + 3 + 4 + 5 + 6, 0, 1, 2, 3, 4);
    }

    /** "The sum of TICKS at which they are DONE, from now on". */
    private static void fromNowOn() {
        CupByCup x = withCups(1, cup(2, 3, 4), cup(1, 1, 0));
        int sum = x.sum();
        Due.is("sum at 0", sum, 2 + 10);
        x.go(500);
        Due.is("sum at 500", x.sum(), sum);
        Due.goTo(x, 20000);
        Due.is("sum at 20000", x.sum(), sum);
        Due.is("best at 20000", x.best(0), 1);
    }

    /** "as if nothing else were, and with power, heat and stores enough". */
    private static void asIfNothingElseWere() {
        CupByCup x = Due.full(1, 30);
        x.recipe(Due.what(5, 1, 30, 20), Due.wet(10, 0));
        x.order(2, 3, 0);
        Due.goTo(x, 33);
        Due.is("one steams, one brews", x.count(2), 5);
        Due.is("one lies", x.cup(2, 0), 2);
        x.limit(6);
        x.order(0, 2, 0);
        due("while others are made", x, 5 + 8, 3, 4);
        x.fault(0, 200);
        Due.is("at fault", x.group(0, 3), 200);
        due("the spoilt one waits too", x, 5 + 8 + 58, 3, 4, 1);
    }

    private static void onlyCupsThatWait() {
        CupByCup x = Due.empty(1, 30);
        x.store(0, 10);
        x.order(0, 2, 0);
        x.go(1);
        due("one is ground now", x, 5, 1);
        x.go(2);
        due("it lies", x, 5, 1);
        x.store(1, 50);
        x.go(1);
        due("it brews", x, 5, 1);
        x.fault(0, 1);
        due("it waits again", x, 13, 0, 1);
    }
}
