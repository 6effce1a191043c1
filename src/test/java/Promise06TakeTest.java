public final class Promise06TakeTest {
    public static void main(String[] args) {
        oneThatWaits();
        oneThatLiesGround();
        othersAreRefused();
        Due.end();
    }

    private static void oneThatWaits() {
        CupByCup x = Due.full(1, 30);
        x.order(0, 3, 0);
        Due.yes("take(1)", x.take(1));
        Due.is("how it is", x.cup(1, 0), 7);
        Due.is("cups that wait", x.count(5), 2);
        Due.is("cups", x.count(3), 3);
        Due.is("beans spoilt", x.count(9), 0);
        Due.no("take(1) again", x.take(1));
        x.go(100);
        Due.is("cups that are done", x.count(4), 2);
        Due.is("it is as it was", x.cup(1, 0), 7);
        Due.is("it was not done", x.cup(1, 4), -1);
    }

    private static void oneThatLiesGround() {
        CupByCup x = Due.empty(1, 30);
        x.store(0, 10);
        x.order(0, 1, 0);
        x.go(3);
        Due.is("it lies ground", x.cup(0, 0), 2);
        Due.yes("take(0)", x.take(0));
        Due.is("how it is", x.cup(0, 0), 7);
        Due.is("beans spoilt", x.count(9), 10);
        Due.is("it was taken back, not thrown away", x.cup(0, 7), 0);
        x.store(0, 10);
        x.store(1, 1000);
        x.order(0, 1, 0);
        x.go(3);
        Due.is("the next one is brewed in its place", x.cup(1, 0), 3);
        x.go(100);
        Due.is("the taken one is not thrown away later", x.count(9), 10);
    }

    private static void othersAreRefused() {
        CupByCup x = Due.full(1, 30);
        x.order(1, 1, 0);
        Due.no("take(-1)", x.take(-1));
        Due.no("take(1)", x.take(1));
        Due.no("take(MIN)", x.take(Integer.MIN_VALUE));
        Due.no("take(MAX)", x.take(Integer.MAX_VALUE));
        x.go(1);
        Due.is("ground now", x.cup(0, 0), 1);
        Due.no("take of one that is ground now", x.take(0));
        x.go(3);
        Due.is("brews", x.cup(0, 0), 3);
        Due.no("take of one that brews", x.take(0));
        x.store(0, 1);
        x.go(4);
        Due.is("steams", x.cup(0, 0), 5);
        Due.no("take of one that steams", x.take(0));
        x.go(10);
        Due.is("done", x.cup(0, 0), 6);
        Due.no("take of one that is done", x.take(0));
        Due.is("done yet", x.cup(0, 0), 6);

        CupByCup dry = Due.empty(1, 30);
        dry.store(0, 100);
        dry.store(1, 100);
        dry.order(1, 1, 0);
        dry.go(8);
        Due.is("brewed, without milk", dry.cup(0, 0), 4);
        Due.no("take of one that is brewed", dry.take(0));
        Due.is("beans spoilt", dry.count(9), 0);
    }
}
