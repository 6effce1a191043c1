public final class Promise08FaultTest {
    public static void main(String[] args) {
        whatBrewsIsSpoilt();
        aRinseIsOverNotDone();
        itGoesByTickByTick();
        itIsInPlaceOfAnotherOne();
        othersAreRefused();
        Due.end();
    }

    private static void whatBrewsIsSpoilt() {
        CupByCup x = Due.full(2, 30);
        x.order(0, 1, 0);
        x.go(4);
        Due.is("it brews", x.cup(0, 5), 0);
        Due.yes("fault(0, 3)", x.fault(0, 3));
        Due.is("it waits again", x.cup(0, 0), 0);
        Due.is("it has no group", x.cup(0, 5), -1);
        Due.is("nothing goes on", x.cup(0, 6), -1);
        Due.is("spoilt once", x.cup(0, 7), 1);
        Due.is("beans spoilt", x.count(9), 10);
        Due.is("the water is gone", x.count(7), 9950);
        Due.is("cups that wait", x.count(5), 1);
        Due.is("the group is free", x.group(0, 0), 0);
        Due.is("it has no ticks to go", x.group(0, 1), 0);
        Due.is("due stays", x.group(0, 2), 1);
        Due.is("power", x.count(2), 0);
        x.go(2);
        Due.is("it is ground again", x.cup(0, 0), 1);
        Due.is("beans", x.count(6), 9980);
        x.go(1);
        Due.is("the fault ends in this tick", x.group(0, 3), 0);
        Due.is("so it brews in group 0", x.cup(0, 5), 0);
        Due.is("due", x.group(0, 2), 2);
        Due.is("water", x.count(7), 9900);
        x.fault(0, 3);
        x.go(3);
        Due.is("fault ends as it is ground", x.cup(0, 5), 0);
        x.fault(0, 4);
        x.go(3);
        Due.is("a longer one: it brews in group 1", x.cup(0, 5), 1);
        Due.is("spoilt thrice", x.cup(0, 7), 3);
        x.fault(0, 200);
        Due.is("a fault of the other group", x.cup(0, 0), 3);
    }

    private static void aRinseIsOverNotDone() {
        CupByCup x = Due.full(1, 30);
        x.recipe(5101000, 10000);
        x.order(2, 5, 0);
        x.go(9);
        Due.is("it rinses", x.group(0, 0), 2);
        int water = x.count(7);
        Due.yes("fault(0, 1)", x.fault(0, 1));
        Due.is("free", x.group(0, 0), 0);
        Due.is("ticks to go", x.group(0, 1), 0);
        Due.is("due as it was", x.group(0, 2), 5);
        Due.is("not done", x.count(10), 0);
        x.go(1);
        Due.is("rinses anew", x.group(0, 1), 6);
        Due.is("water goes anew", x.count(7), water - 20);
        x.go(6);
        Due.is("done", x.count(10), 1);
        Due.is("due", x.group(0, 2), 0);
    }

    private static void itGoesByTickByTick() {
        CupByCup x = Due.full(1, 30);
        Due.yes("fault(0, 200)", x.fault(0, 200));
        Due.is("ticks of it", x.group(0, 3), 200);
        x.order(0, 1, 0);
        x.go(3);
        Due.is("ticks of it", x.group(0, 3), 197);
        Due.is("no cup is brewed", x.cup(0, 0), 2);
        x.go(196);
        Due.is("ticks of it", x.group(0, 3), 1);
        Due.is("nothing brews", x.group(0, 0), 0);
        x.go(1);
        Due.is("ticks of it", x.group(0, 3), 0);
        x.go(5);
        Due.is("none of it any more", x.group(0, 3), 0);
        Due.is("thrown away each 32 ticks", x.cup(0, 7), 6);
        x.go(200);
        Due.is("done at last", x.cup(0, 0), 6);

        CupByCup rinse = Due.full(1, 30);
        rinse.recipe(5101000, 10000);
        rinse.order(2, 5, 0);
        rinse.go(6);
        rinse.fault(0, 10);
        rinse.take(4);
        rinse.go(9);
        Due.is("no rinse at fault", rinse.group(0, 0), 0);
        rinse.go(1);
        Due.is("a rinse behind it", rinse.group(0, 0), 2);
    }

    private static void itIsInPlaceOfAnotherOne() {
        CupByCup x = new CupByCup(3, 30);
        x.fault(1, 50);
        Due.yes("a shorter one", x.fault(1, 7));
        Due.is("ticks of it", x.group(1, 3), 7);
        Due.yes("a longer one", x.fault(1, 60));
        Due.is("ticks of it", x.group(1, 3), 60);
        Due.is("group 0 has none", x.group(0, 3), 0);
        Due.is("group 2 has none", x.group(2, 3), 0);
    }

    private static void othersAreRefused() {
        CupByCup x = Due.full(2, 30);
        x.order(0, 2, 0);
        x.go(4);
        int[][] wrong = {
            {-1, 5}, {2, 5}, {Integer.MIN_VALUE, 5}, {Integer.MAX_VALUE, 5},
            {0, 0}, {0, -1}, {0, 201}, {0, Integer.MIN_VALUE}, {0, Integer.MAX_VALUE},
        };
        for (int[] pair : wrong) {
            Due.no("fault(" + pair[0] + ", " + pair[1] + ")", x.fault(pair[0], pair[1]));
        }
        Due.is("it brews yet", x.cup(0, 0), 3);
        Due.is("beans spoilt", x.count(9), 0);
        Due.is("no fault", x.group(0, 3), 0);
    }
}
