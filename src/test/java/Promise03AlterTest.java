public final class Promise03AlterTest {
    public static void main(String[] args) {
        onlyCupsToComeAreOthers();
        refusedOnesChangeNothing();
        Due.end();
    }

    private static void onlyCupsToComeAreOthers() {
        CupByCup x = Due.full(1, 30);
        x.order(0, 1, 0);
        Due.yes("alter(0, ..)", x.alter(0, 30901000, 10000));
        x.order(0, 1, 0);
        x.order(1, 1, 0);
        x.go(1);
        Due.is("beans of the cup that was there", x.count(6), 9990);
        Due.is("its ticks to grind", x.cup(0, 6), 2);
        x.go(2);
        Due.is("its water", x.count(7), 9950);
        Due.is("its ticks to brew", x.cup(0, 6), 3);
        Due.is("beans of the cup that came behind", x.count(6), 9960);
        Due.is("its ticks to grind", x.cup(1, 6), 9);
        x.go(9);
        Due.is("the other recipe is as it was", x.cup(2, 6), 3);
    }

    private static void refusedOnesChangeNothing() {
        CupByCup x = Due.full(1, 30);
        Due.no("alter(-1, ..)", x.alter(-1, 30901000, 10000));
        Due.no("alter(2, ..)", x.alter(2, 30901000, 10000));
        Due.no("alter(MAX, ..)", x.alter(Integer.MAX_VALUE, 30901000, 10000));
        Due.no("alter(MIN, ..)", x.alter(Integer.MIN_VALUE, 30901000, 10000));
        Due.no("alter, beans 31", x.alter(0, 31901000, 10000));
        Due.no("alter, last digit 5", x.alter(0, 30901005, 10000));
        Due.no("alter, milk without steam", x.alter(0, 30901000, 10001));
        Due.no("alter, water 9", x.alter(0, 30901000, 9000));
        x.order(0, 1, 0);
        x.go(1);
        Due.is("beans as ever", x.count(6), 9990);
        Due.is("ticks to grind as ever", x.cup(0, 6), 2);
        Due.is("no recipe came", x.recipe(Due.PLAIN, Due.PLAIN_WET), 2);
    }
}
