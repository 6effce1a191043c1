/** What the tests share: it tells every answer that is not the one that is due. */
final class Due {
    // 10 g of beans, 2 ticks to grind, 3 to brew, no steam, 50 g of water.
    static final int PLAIN = 10203000;
    static final int PLAIN_WET = 50000;
    // 12 g of beans, 3 ticks to grind, 4 to brew, 10 to steam, 60 g of water, 80 g of milk.
    static final int MILKY = 12304100;
    static final int MILKY_WET = 60080;

    private static int wrong = 0;

    private Due() {
    }

    static void is(String call, long got, long want) {
        if (got != want) {
            wrong++;
            System.out.println(call + " answered " + got + ", due is " + want);
        }
    }

    static void yes(String call, boolean got) {
        is(call, got ? 1 : 0, 1);
    }

    static void no(String call, boolean got) {
        is(call, got ? 1 : 0, 0);
    }

    static void same(String when, CupByCup x, CupByCup other) {
        String due = seen(other);
        String got = seen(x);
        if (!got.equals(due)) {
            wrong++;
            System.out.println(when + ": seen " + got + ", due is " + due);
        }
    }

    static void end() {
        if (wrong != 0) {
            System.out.println(wrong + " answers are not as due");
            System.exit(1);
        }
    }

    /** What recipe and alter take first. */
    static int what(int beans, int grind, int brew, int steam) {
        return beans * 1000000 + grind * 100000 + brew * 1000 + steam * 10;
    }

    /** What recipe and alter take second. */
    static int wet(int water, int milk) {
        return water * 1000 + milk;
    }

    /** A machine without recipes, with so many grams (0 .. 10000) in its stores. */
    static CupByCup stocked(int groups, int limit, int beans, int water, int milk) {
        CupByCup x = new CupByCup(groups, limit);
        int[] grams = {beans, water, milk};
        for (int store = 0; store < 3; store++) {
            if (grams[store] > 0) {
                x.store(store, grams[store]);
            }
        }
        return x;
    }

    /** Ticks go until NOW is the tick, be it 500 at once and more. */
    static void goTo(CupByCup x, int tick) {
        for (int i = 0; i < 50 && x.count(0) < tick; i++) {
            x.go(Math.min(500, tick - x.count(0)));
        }
        is("NOW", x.count(0), tick);
    }

    /** A machine with the recipes PLAIN (0) and MILKY (1) and 10000 g in each store. */
    static CupByCup full(int groups, int limit) {
        CupByCup x = new CupByCup(groups, limit);
        x.recipe(PLAIN, PLAIN_WET);
        x.recipe(MILKY, MILKY_WET);
        for (int store = 0; store < 3; store++) {
            x.store(store, 10000);
        }
        return x;
    }

    /** The same machine with its stores empty. */
    static CupByCup empty(int groups, int limit) {
        CupByCup x = new CupByCup(groups, limit);
        x.recipe(PLAIN, PLAIN_WET);
        x.recipe(MILKY, MILKY_WET);
        return x;
    }

    /** All that the calls without effect tell, in one row. */
    static String seen(CupByCup x) {
        StringBuilder all = new StringBuilder();
        for (int what = -1; what <= 13; what++) {
            all.append(x.count(what)).append(' ');
        }
        for (int group = 0; group < 3; group++) {
            for (int what = 0; what < 4; what++) {
                all.append(x.group(group, what)).append(' ');
            }
        }
        for (int cup = 0; cup < x.count(3); cup++) {
            for (int what = 0; what < 8; what++) {
                all.append(x.cup(cup, what)).append(' ');
            }
        }
        for (int k = 0; k < 6; k++) {
            all.append(x.best(k)).append(' ');
        }
        return all.append(x.sum()).toString();
    }
}
