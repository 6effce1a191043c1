public final class Promise04StoreTest {
    public static void main(String[] args) {
        gramsCome();
        othersAreRefused();
        aStoreHoldsNoMore();
        aStoreThatGaveTakesAgain();
        callsOfOneSizeUpToTheMost();
        Due.end();
    }

    private static void gramsCome() {
        CupByCup x = new CupByCup(1, 30);
        Due.is("store(0, 1)", x.store(0, 1), 1);
        Due.is("store(1, 10000)", x.store(1, 10000), 10000);
        Due.is("store(2, 30)", x.store(2, 30), 30);
        Due.is("store(2, 12)", x.store(2, 12), 42);
        Due.is("beans", x.count(6), 1);
        Due.is("water", x.count(7), 10000);
        Due.is("milk", x.count(8), 42);
    }

    private static void othersAreRefused() {
        CupByCup x = new CupByCup(1, 30);
        int[][] wrong = {
            {-1, 5}, {3, 5}, {Integer.MIN_VALUE, 5}, {Integer.MAX_VALUE, 5},
            {0, 0}, {1, -1}, {2, 10001}, {0, Integer.MIN_VALUE}, {0, Integer.MAX_VALUE},
        };
        for (int[] pair : wrong) {
            Due.is("store(" + pair[0] + ", " + pair[1] + ")", x.store(pair[0], pair[1]), -1);
        }
        for (int what = 6; what <= 8; what++) {
            Due.is("count(" + what + ")", x.count(what), 0);
        }
    }

    private static void aStoreHoldsNoMore() {
        for (int which = 0; which <= 2; which++) {
            CupByCup x = new CupByCup(1, 30);
            for (int i = 1; i <= 9; i++) {
                Due.is("store(" + which + ", 10000)", x.store(which, 10000), i * 10000);
            }
            Due.is("one less than full", x.store(which, 9999), 99999);
            Due.is("one gram too many", x.store(which, 2), -1);
            Due.is("far too many", x.store(which, 10000), -1);
            Due.is("what was refused isn't there", x.count(6 + which), 99999);
            Due.is("the last gram", x.store(which, 1), 100000);
            Due.is("a gram above", x.store(which, 1), -1);
            Due.is("full", x.count(6 + which), 100000);
            Due.is("another store", x.store((which + 1) % 3, 7), 7);
        }
    }

    private static void aStoreThatGaveTakesAgain() {
        CupByCup x = new CupByCup(1, 30);
        for (int i = 0; i < 10; i++) {
            x.store(0, 10000);
        }
        x.recipe(10203000, 50000);
        x.order(0, 1, 0);
        x.go(1);
        Due.is("ten grams went", x.count(6), 99990);
        Due.is("eleven don't come", x.store(0, 11), -1);
        Due.is("still", x.count(6), 99990);
        Due.is("ten come", x.store(0, 10), 100000);
        Due.is("the next recipe has the next number", x.recipe(10203000, 50000), 1);
    }

    private static void callsOfOneSizeUpToTheMost() {
        CupByCup x = new CupByCup(0, 0);
        for (int i = 1; i <= 113; i++) {
            Due.is("store(0, 880)", x.store(0, 880), i * 880);
        }
        Due.is("the 114th store(0, 880)", x.store(0, 880), -1);
        Due.is("beans", x.count(6), 99440);
        Due.is("as many as there is room for", x.store(0, 560), 100000);
    }
}
