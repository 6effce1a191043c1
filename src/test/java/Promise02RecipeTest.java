public final class Promise02RecipeTest {
    public static void main(String[] args) {
        edgesCanBe();
        othersCanNot();
        thereAreEightAtMost();
        itsPartsAreReadRight();
        Due.end();
    }

    private static int what(int beans, int grind, int brew, int steam) {
        return beans * 1000000 + grind * 100000 + brew * 1000 + steam * 10;
    }

    private static void edgesCanBe() {
        CupByCup x = new CupByCup(1, 30);
        Due.is("all least", x.recipe(what(5, 1, 1, 0), 10000), 0);
        Due.is("all most", x.recipe(what(30, 9, 30, 20), 250250), 1);
        Due.is("steam without milk", x.recipe(what(10, 2, 3, 1), 50000), 2);
    }

    private static void othersCanNot() {
        int[][] wrong = {
            {what(4, 2, 3, 0), 50000}, {what(31, 2, 3, 0), 50000}, {what(10, 0, 3, 0), 50000},
            {what(10, 2, 0, 0), 50000}, {what(10, 2, 31, 0), 50000}, {what(10, 2, 99, 0), 50000},
            {what(10, 2, 3, 21), 50000}, {what(10, 2, 3, 99), 50000},
            {what(10, 2, 3, 0) + 1, 50000}, {what(10, 2, 3, 0) + 9, 50000},
            {what(10, 2, 3, 0), 9000}, {what(10, 2, 3, 0), 251000}, {what(10, 2, 3, 0), 50001},
            {what(10, 2, 3, 1), 50251}, {what(10, 2, 3, 1), 50999}, {what(10, 2, 3, 0), 0},
            {0, 50000}, {-what(10, 2, 3, 0), 50000}, {what(10, 2, 3, 0), -50000},
            {Integer.MIN_VALUE, 50000}, {Integer.MAX_VALUE, 50000},
            {what(10, 2, 3, 0), Integer.MIN_VALUE}, {what(10, 2, 3, 0), Integer.MAX_VALUE},
        };
        CupByCup x = new CupByCup(1, 30);
        for (int[] pair : wrong) {
            Due.is("recipe(" + pair[0] + ", " + pair[1] + ")", x.recipe(pair[0], pair[1]), -1);
        }
        Due.is("the first one behind refused ones", x.recipe(Due.PLAIN, Due.PLAIN_WET), 0);
    }

    private static void thereAreEightAtMost() {
        CupByCup x = new CupByCup(1, 30);
        for (int i = 0; i < 8; i++) {
            Due.is("recipe " + i, x.recipe(Due.PLAIN, Due.PLAIN_WET), i);
        }
        Due.is("the ninth recipe", x.recipe(Due.PLAIN, Due.PLAIN_WET), -1);
        Due.is("order of the eighth", x.order(7, 1, 0), 0);
        Due.is("order of the ninth", x.order(8, 1, 0), -1);
    }

    /** 17 g of beans, 4 ticks to grind, 12 to brew, 13 to steam, 123 g of water, 45 g of milk. */
    private static void itsPartsAreReadRight() {
        CupByCup x = new CupByCup(1, 30);
        x.recipe(17412130, 123045);
        for (int store = 0; store < 3; store++) {
            x.store(store, 1000);
        }
        x.order(0, 1, 0);
        x.go(1);
        Due.is("beans", x.count(6), 983);
        Due.is("ticks to grind", x.cup(0, 6), 4);
        x.go(4);
        Due.is("water", x.count(7), 877);
        Due.is("ticks to brew", x.cup(0, 6), 12);
        x.go(12);
        Due.is("milk", x.count(8), 955);
        Due.is("ticks to steam", x.cup(0, 6), 13);
        x.go(13);
        Due.is("DONE", x.cup(0, 4), 29);
    }
}
