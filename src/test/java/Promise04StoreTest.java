public final class Promise04StoreTest {
    public static void main(String[] args) {
        gramsCome();
        othersAreRefused();
        aStoreHoldsNoMore();
        Due.end();
    }

    private static void gramsCome() {
        CupByCup x = new CupByCup(1, 30);
        Due.is("store(0, 1)", x.store(0, 1), 1);
        Due.is("store(1, 10000)", x.store(1, 10000), 10000);
        Due.is("store(2, 30)", x.store(2, 30), 30);
        Due.is("store(2, 12)", x.store(2, 12), 42);
        Due.is("beans", x.count(6), 1);
        Due.is("water", x.count(7), 10000);
        Due.is("milk", x.count(8), 42);
    }

    private static void othersAreRefused() {
        CupByCup x = new CupByCup(1, 30);
        int[][] wrong = {
            {-1, 5}, {3, 5}, {Integer.MIN_VALUE, 5}, {Integer.MAX_VALUE, 5},
            {0, 0}, {1, -1}, {2, 10001}, {0, Integer.MIN_VALUE}, {0, Integer.MAX_VALUE},
        };
        for (int[] pair : wrong) {
            Due.is("store(" + pair[0] + ", " + pair[1] + ")", x.store(pair[0], pair[1]), -1);
        }
        for (int what = 6; what <= 8; what++) {
            Due.is("count(" + what + ")", x.count(what), 0);
        }
    }

    private static void aStoreHoldsNoMore() {
        CupByCup x = new CupByCup(1, 30);
        for (int i = 1; i <= 9; i++) {
            Due.is("store(1, 10000)", x.store(1, 10000), i * 10000);
        }
        Due.is("one less than full", x.store(1, 9999), 99999);
        Due.is("what is above 100000 isn't there", x.store(1, 2), 100000);
        Due.is("nor behind that", x.store(1, 10000), 100000);
        Due.is("water", x.count(7), 100000);
        Due.is("another store", x.store(0, 7), 7);
    }
}
