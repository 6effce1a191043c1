/** Every argument of every call: the least and the most that can be, and what is outside of them. */
public final class EdgesOfCallsTest {
    public static void main(String[] args) {
        alterOfARecipe();
        stores();
        storesUpToTheMost();
        orders();
        takes();
        takesByHowACupIs();
        takesOneByOne();
        goes();
        faults();
        limits();
        told();
        cups();
        groups();
        bests();
        counts();
        whatACupHasNot();
        theLongest();
        Due.end();
    }

    /** Whether a call takes the argument. */
    private interface Call {
        boolean takes(CupByCup x, int argument);
    }

    /** In tick 7: recipes 0 .. 2; groups 0 and 1; cups 0 and 1 brew, 2 and 3 lie, 4 .. 8 wait. */
    private static CupByCup busy() {
        CupByCup x = Due.full(2, 30);
        x.recipe(Due.what(5, 1, 9, 9), Due.wet(10, 10));
        x.order(2, 4, 0);
        x.order(0, 5, 1);
        x.go(7);
        return x;
    }

    /** From least to most an argument is taken; outside it is refused and nothing is otherwise. */
    private static void edges(String name, int least, int most, Call call) {
        int[] tried = {
            least - 2, least - 1, least, least + 1, most - 1, most, most + 1, most + 2,
            Integer.MIN_VALUE, Integer.MIN_VALUE + 1, Integer.MAX_VALUE - 1, Integer.MAX_VALUE,
            least + 256 * 256, most - 256 * 256, -1, 0,
        };
        for (int argument : tried) {
            CupByCup x = busy();
            String before = Due.seen(x);
            boolean isIn = argument >= least && argument <= most;
            Due.is(name + " " + argument, call.takes(x, argument) ? 1 : 0, isIn ? 1 : 0);
            if (!isIn) {
                Due.yes(name + " " + argument + " changes nothing", Due.seen(x).equals(before));
            }
        }
    }

    /** "false if there is none such, or it can't be"; what can be stands in EdgesOfTermsTest. */
    private static void alterOfARecipe() {
        edges("alter, recipe", 0, 2, (x, n) -> x.alter(n, Due.PLAIN, Due.PLAIN_WET));
    }

    /** "NONE if there is none such, or n isn't 1 .. 10000". */
    private static void stores() {
        edges("store, which", 0, 2, (x, n) -> x.store(n, 1) >= 0);
        for (int store = 0; store < 3; store++) {
            int which = store;
            edges("store " + which + ", n", 1, 10000, (x, n) -> x.store(which, n) >= 0);
        }
    }

    /** "(100000 there at most)": what is there and n together, to the gram. */
    private static void storesUpToTheMost() {
        for (int which = 0; which < 3; which++) {
            for (int room : new int[] {0, 1, 2, 9999, 10000, 10001}) {
                for (int n : new int[] {1, 2, 3, 9998, 9999, 10000}) {
                    CupByCup x = new CupByCup(1, 30);
                    int there = 100000 - room;
                    for (int i = 0; i < 11 && x.count(6 + which) < there; i++) {
                        x.store(which, Math.min(10000, there - x.count(6 + which)));
                    }
                    String call = "store(" + which + ", " + n + ") with room for " + room;
                    Due.is(call, x.store(which, n), n <= room ? there + n : -1);
                    Due.is("there", x.count(6 + which), n <= room ? there + n : there);
                }
            }
        }
    }

    /** "An ORDER of n CUPS (1 .. 6) of a RECIPE .. NONE if there is none such, no such LANE". */
    private static void orders() {
        edges("order, recipe", 0, 2, (x, n) -> x.order(n, 1, 0) == 9);
        edges("order, n", 1, 6, (x, n) -> x.order(0, n, 0) == 9 && x.count(3) == 9 + n);
        edges("order, lane", 0, 1, (x, n) -> x.order(0, 1, n) == 9 && x.cup(9, 2) == n);
    }

    private static void takes() {
        edges("take", 2, 8, (x, n) -> x.take(n));
    }

    /** "false if there is none such that WAITS or lies GROUND". */
    private static void takesByHowACupIs() {
        for (int how = 0; how <= 7; how++) {
            CupByCup x = Due.stocked(1, 30, how == 0 ? 0 : 5, how <= 2 ? 0 : 10, how <= 4 ? 0 : 1);
            x.recipe(Due.what(5, 5, 5, 5), Due.wet(10, 1));
            x.order(0, 1, 0);
            if (how == 7) {
                x.take(0);
            }
            int[] ticks = {1, 1, 6, 6, 11, 11, 16, 1};
            x.go(ticks[how]);
            Due.is("how it is", x.cup(0, 0), how);
            String before = Due.seen(x);
            boolean canBe = how == 0 || how == 2;
            Due.is("take of one that is " + how, x.take(0) ? 1 : 0, canBe ? 1 : 0);
            Due.is("how it is then", x.cup(0, 0), canBe ? 7 : how);
            Due.is("beans spoilt by take of " + how, x.count(9), how == 2 ? 5 : 0);
            Due.is("cups that wait then", x.count(5), 0);
            Due.yes("refused changes nothing", canBe || Due.seen(x).equals(before));
        }
    }

    /** "(its beans are spoilt, if it lies GROUND)": those of each cup that is taken. */
    private static void takesOneByOne() {
        CupByCup x = Due.stocked(3, 30, 1000, 0, 0);
        for (int i = 0; i < 3; i++) {
            x.recipe(Due.what(5 + i, 1, 1, 0), Due.wet(10, 0));
            x.order(i, 1, 0);
        }
        x.order(0, 1, 0);
        x.go(4);
        int spoilt = 0;
        for (int cup = 0; cup < 3; cup++) {
            Due.is("it lies", x.cup(cup, 0), 2);
            Due.yes("take(" + cup + ")", x.take(cup));
            spoilt += 5 + cup;
            Due.is("beans spoilt behind take(" + cup + ")", x.count(9), spoilt);
        }
        Due.yes("take of one that waits", x.take(3));
        Due.is("beans spoilt", x.count(9), spoilt);
        Due.is("beans that went stay away", x.count(6), 1000 - spoilt);
        Due.is("cups", x.count(3), 4);
    }

    /** "n TICKS go (0 .. 500; up to 20000): NOW; NONE for another n." */
    private static void goes() {
        edges("go", 0, 500, (x, n) -> x.go(n) == 7 + n);
        int[] from = {19499, 19500, 19501, 19999, 20000};
        for (int tick : from) {
            CupByCup x = new CupByCup(1, 30);
            Due.goTo(x, tick);
            Due.is("go(500) at " + tick, x.go(500), Math.min(20000, tick + 500));
            Due.is("go(-1)", x.go(-1), -1);
            Due.is("go(501)", x.go(501), -1);
            Due.is("NOW", x.count(0), Math.min(20000, tick + 500));
        }
    }

    /** "false if there is no such GROUP, or n can't be". */
    private static void faults() {
        edges("fault, group", 0, 1, (x, n) -> x.fault(n, 9) && x.group(n, 3) == 9);
        edges("fault, n", 1, 200, (x, n) -> x.fault(1, n) && x.group(1, 3) == n);
    }

    private static void limits() {
        edges("limit", 6, 30, (x, n) -> x.limit(n));
    }

    private static void told() {
        edges("tell, told", 0, 1000, (x, n) -> x.tell(n, 500) >= 0);
        edges("tell, wished", 0, 1000, (x, n) -> x.tell(500, n) >= 0);
    }

    /** "NONE for others, or if there is none such". */
    private static void cups() {
        for (int what : new int[] {0, 1, 2, 3, 7}) {
            edges("cup(.., " + what + ") of", 0, 8, (x, n) -> x.cup(n, what) != -1);
        }
        CupByCup x = busy();
        x.go(200);
        Due.is("done", x.cup(0, 0), 6);
        for (int what : new int[] {-2, -1, 8, 9, 256, 65536, Integer.MIN_VALUE, Integer.MAX_VALUE}) {
            for (int cup = -1; cup <= 9; cup++) {
                Due.is("cup(" + cup + ", " + what + ")", x.cup(cup, what), -1);
            }
        }
        for (int what = 0; what <= 8; what++) {
            Due.is("cup(-1, " + what + ")", x.cup(-1, what), -1);
            Due.is("cup(9, " + what + ")", x.cup(9, what), -1);
            Due.is("cup(100, " + what + ")", x.cup(100, what), -1);
        }
    }

    private static void groups() {
        for (int what = 0; what <= 3; what++) {
            int asked = what;
            edges("group(.., " + what + ") of", 0, 1, (x, n) -> x.group(n, asked) != -1);
        }
        edges("group(0, ..)", 0, 3, (x, n) -> x.group(0, n) != -1);
        edges("group(1, ..)", 0, 3, (x, n) -> x.group(1, n) != -1);
    }

    private static void bests() {
        edges("best", 0, 4, (x, n) -> x.best(n) != -1);
    }

    private static void counts() {
        edges("count", 0, 12, (x, n) -> x.count(n) != -1);
    }

    /** "4 in which it was DONE (.. NONE), 5 its GROUP (.. NONE), 6 TICKS to go .. (NONE)". */
    private static void whatACupHasNot() {
        CupByCup x = Due.stocked(3, 30, 5, 10, 1);
        x.recipe(Due.what(5, 5, 5, 5), Due.wet(10, 1));
        x.fault(0, 200);
        x.fault(1, 8);
        x.fault(2, 9);
        x.order(0, 1, 0);
        int[] seen = new int[8];
        for (int tick = 0; tick < 30; tick++) {
            int how = x.cup(0, 0);
            seen[how]++;
            boolean goesOn = how == 1 || how == 3 || how == 5;
            Due.is("the tick in which it was done, how " + how, x.cup(0, 4), how == 6 ? 17 : -1);
            Due.is("its group, how " + how, x.cup(0, 5), how == 3 ? 1 : -1);
            Due.is("ticks to go, how " + how, x.cup(0, 6), goesOn ? 6 - seen[how] : -1);
            Due.is("never spoilt", x.cup(0, 7), 0);
            x.go(1);
        }
        int[] due = {1, 5, 2, 5, 0, 5, 12, 0};
        for (int how = 0; how < 8; how++) {
            Due.is("ticks in which it is " + how, seen[how], due[how]);
        }
    }

    /** "12 the longest that a CUP that is DONE took (TICKS from its coming on)". */
    private static void theLongest() {
        CupByCup x = Due.full(1, 30);
        x.recipe(Due.what(5, 1, 1, 0), Due.wet(10, 0));
        x.recipe(Due.what(5, 1, 2, 0), Due.wet(10, 0));
        Due.is("no cup", x.count(12), 0);
        x.go(100);
        x.order(3, 1, 0);
        x.go(3);
        Due.is("none is done", x.count(12), 0);
        x.go(1);
        Due.is("took 3", x.count(12), 3);
        x.order(2, 1, 0);
        x.go(3);
        Due.is("done in", x.cup(1, 4), 106);
        Due.is("one that took 2", x.count(12), 3);
        x.order(3, 1, 0);
        x.go(4);
        Due.is("one that took 3", x.count(12), 3);
        x.order(0, 1, 0);
        x.go(6);
        Due.is("one that took 5", x.count(12), 5);
    }
}
