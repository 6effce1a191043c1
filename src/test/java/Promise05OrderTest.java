public final class Promise05OrderTest {
    public static void main(String[] args) {
        cupsHaveNumbersAsTheyCome();
        othersAreRefused();
        thereAreHundredAtMost();
        Due.end();
    }

    private static void cupsHaveNumbersAsTheyCome() {
        CupByCup x = Due.empty(2, 30);
        Due.is("order(0, 1, 0)", x.order(0, 1, 0), 0);
        x.go(7);
        Due.is("order(1, 6, 1)", x.order(1, 6, 1), 1);
        Due.is("order(0, 2, 0)", x.order(0, 2, 0), 7);
        int[] first = {0, 1, 1, 1, 1, 1, 1, 7, 7};
        for (int cup = 0; cup < 9; cup++) {
            Due.is("how cup " + cup + " is", x.cup(cup, 0), 0);
            Due.is("first of its order, cup " + cup, x.cup(cup, 1), first[cup]);
            Due.is("lane of cup " + cup, x.cup(cup, 2), first[cup] == 1 ? 1 : 0);
            Due.is("when cup " + cup + " came", x.cup(cup, 3), cup == 0 ? 0 : 7);
        }
        Due.is("cups", x.count(3), 9);
        Due.is("cups that wait", x.count(5), 9);
    }

    private static void othersAreRefused() {
        CupByCup x = Due.empty(2, 30);
        int[][] wrong = {
            {-1, 1, 0}, {2, 1, 0}, {Integer.MIN_VALUE, 1, 0}, {Integer.MAX_VALUE, 1, 0},
            {0, 0, 0}, {0, -1, 0}, {0, 7, 0}, {0, Integer.MIN_VALUE, 0}, {0, Integer.MAX_VALUE, 0},
            {0, 1, -1}, {0, 1, 2}, {0, 1, Integer.MIN_VALUE}, {0, 1, Integer.MAX_VALUE},
        };
        for (int[] row : wrong) {
            String call = "order(" + row[0] + ", " + row[1] + ", " + row[2] + ")";
            Due.is(call, x.order(row[0], row[1], row[2]), -1);
        }
        Due.is("cups", x.count(3), 0);
        Due.is("cups that wait", x.count(5), 0);
    }

    private static void thereAreHundredAtMost() {
        CupByCup x = Due.empty(2, 30);
        for (int i = 0; i < 16; i++) {
            x.order(0, 6, 1);
        }
        Due.is("five more than 96", x.order(0, 5, 0), -1);
        Due.is("cups", x.count(3), 96);
        x.take(0);
        Due.is("taken ones count too", x.order(0, 5, 0), -1);
        Due.is("four more", x.order(0, 4, 0), 96);
        Due.is("one more than 100", x.order(0, 1, 0), -1);
        Due.is("cups", x.count(3), 100);
        Due.is("the last one", x.cup(99, 1), 96);
    }
}
