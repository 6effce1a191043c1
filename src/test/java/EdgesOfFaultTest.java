/** "A FAULT of a GROUP, for some TICKS" in the part "==== 2." of the document, at its edges. */
public final class EdgesOfFaultTest {
    public static void main(String[] args) {
        itEndsAsTicksHaveGoneBy();
        itIsOneToTwoHundred();
        whatBrewsWaitsAgain();
        itWaitsAgainInItsPlace();
        itsBeansAndWaterAreSpoilt();
        aRinseIsOverNotDone();
        aFreeGroupHasAFaultAlone();
        otherGroupsGoOn();
        grindingAndSteamGoOn();
        inPlaceOfWhatIsLeft();
        dueStays();
        Due.end();
    }

    /** "It ends as TICKS have gone by: (1) has one less": with 1 left it ends in the next tick. */
    private static void itEndsAsTicksHaveGoneBy() {
        for (int n : new int[] {1, 2, 3, 29}) {
            CupByCup x = Due.full(1, 30);
            x.recipe(Due.what(5, 1, 30, 0), Due.wet(10, 0));
            x.order(2, 1, 0);
            x.go(1);
            x.fault(0, n);
            for (int left = n; left >= 1; left--) {
                Due.is("ticks of a fault of " + n, x.group(0, 3), left);
                Due.is("nothing brews", x.group(0, 0), 0);
                x.go(1);
            }
            Due.is("ticks of a fault of " + n, x.group(0, 3), 0);
            Due.is("it brews in the tick in which the fault ends", x.cup(0, 6), 30);
            x.go(1);
            Due.is("no tick less than none", x.group(0, 3), 0);
        }
    }

    /** "A FAULT for n TICKS (1 .. 200": 200 go by in 200 ticks. */
    private static void itIsOneToTwoHundred() {
        for (int n : new int[] {0, 1, 2, 199, 200, 201}) {
            CupByCup x = new CupByCup(1, 30);
            boolean canBe = n >= 1 && n <= 200;
            Due.is("fault(0, " + n + ")", x.fault(0, n) ? 1 : 0, canBe ? 1 : 0);
            Due.is("ticks of it", x.group(0, 3), canBe ? n : 0);
            x.go(n == 0 ? 0 : n - 1);
            Due.is("ticks of " + n + " behind all but one", x.group(0, 3), canBe ? 1 : 0);
            x.go(1);
            Due.is("ticks of " + n + " behind all", x.group(0, 3), 0);
        }
    }

    /** "what BREWS there WAITS again": with all its ticks to go, and with the last one. */
    private static void whatBrewsWaitsAgain() {
        for (int ticks = 0; ticks <= 4; ticks++) {
            CupByCup x = Due.full(1, 30);
            x.order(0, 1, 0);
            x.go(2 + ticks);
            int how = x.cup(0, 0);
            Due.is("how it is behind " + ticks, how, ticks == 0 ? 1 : ticks <= 3 ? 3 : 6);
            x.fault(0, 10);
            Due.is("how it is by a fault behind " + ticks, x.cup(0, 0), how == 3 ? 0 : how);
            Due.is("spoilt", x.cup(0, 7), how == 3 ? 1 : 0);
            Due.is("beans spoilt", x.count(9), how == 3 ? 10 : 0);
            Due.is("cups that wait", x.count(5), how == 3 ? 1 : 0);
            Due.is("its group", x.cup(0, 5), -1);
            Due.is("the group is free", x.group(0, 0), 0);
            Due.is("its ticks", x.group(0, 1), 0);
        }
    }

    /** Of the lesser number it is ground ahead of others; of the greater lane behind them. */
    private static void itWaitsAgainInItsPlace() {
        for (int lane = 0; lane <= 1; lane++) {
            CupByCup x = Due.full(1, 30);
            x.order(0, 1, lane);
            x.go(3);
            x.order(0, 1, 0);
            x.fault(0, 1);
            x.go(1);
            Due.is("ground, lane " + lane, x.cup(0, 0), lane == 0 ? 1 : 0);
            Due.is("the other one", x.cup(1, 0), lane == 0 ? 0 : 1);
            Due.is("its lane", x.cup(0, 2), lane);
            Due.is("it came in", x.cup(0, 3), 0);
        }
    }

    /** "(its beans and water are spoilt)": both go once more when it is made again. */
    private static void itsBeansAndWaterAreSpoilt() {
        CupByCup x = Due.stocked(1, 30, 20, 100, 0);
        x.recipe(Due.PLAIN, Due.PLAIN_WET);
        x.order(0, 1, 0);
        x.go(3);
        x.fault(0, 1);
        Due.is("beans are not there again", x.count(6), 10);
        Due.is("water is not there again", x.count(7), 50);
        x.go(3);
        Due.is("beans went again", x.count(6), 0);
        Due.is("water went again", x.count(7), 0);
        x.go(3);
        Due.is("done", x.cup(0, 4), 8);
        Due.is("beans spoilt", x.count(9), 10);
        Due.is("spoilt once", x.cup(0, 7), 1);
    }

    /** "a RINSE there is over, not done": with all its 6 ticks to go, and with the last one. */
    private static void aRinseIsOverNotDone() {
        for (int ticks = 0; ticks <= 6; ticks++) {
            CupByCup x = Due.full(1, 30);
            x.recipe(Due.what(5, 1, 1, 0), Due.wet(10, 0));
            x.order(2, 5, 0);
            x.go(7 + ticks);
            Due.is("rinses behind " + ticks, x.group(0, 0), ticks < 6 ? 2 : 0);
            x.fault(0, 2);
            Due.is("free", x.group(0, 0), 0);
            Due.is("ticks to go", x.group(0, 1), 0);
            Due.is("done behind " + ticks, x.count(10), ticks < 6 ? 0 : 1);
            Due.is("due behind " + ticks, x.group(0, 2), ticks < 6 ? 5 : 0);
            Due.is("water is not there again", x.count(7), 10000 - 50 - 20);
            x.go(1);
            Due.is("at fault it does not rinse", x.group(0, 0), 0);
            x.go(1);
            Due.is("behind the fault it does, unless it was done", x.group(0, 1), ticks < 6 ? 6 : 0);
            x.go(6);
            Due.is("done at last", x.count(10), 1);
        }
    }

    private static void aFreeGroupHasAFaultAlone() {
        CupByCup x = Due.full(2, 30);
        x.order(0, 1, 0);
        x.go(50);
        CupByCup other = Due.full(2, 30);
        other.order(0, 1, 0);
        other.go(50);
        x.fault(0, 5);
        x.go(5);
        other.go(5);
        Due.same("behind a fault of a free group", x, other);
    }

    private static void otherGroupsGoOn() {
        CupByCup x = Due.full(3, 30);
        x.recipe(Due.what(5, 1, 30, 0), Due.wet(10, 0));
        x.order(2, 3, 0);
        x.go(4);
        x.fault(1, 9);
        for (int cup = 0; cup < 3; cup++) {
            Due.is("cup " + cup, x.cup(cup, 0), cup == 1 ? 0 : 3);
            Due.is("group " + cup, x.group(cup, 0), cup == 1 ? 0 : 1);
            Due.is("fault of group " + cup, x.group(cup, 3), cup == 1 ? 9 : 0);
        }
        x.go(1);
        Due.is("ticks of group 0", x.group(0, 1), 27);
        Due.is("ticks of group 2", x.group(2, 1), 29);
    }

    private static void grindingAndSteamGoOn() {
        CupByCup x = Due.full(1, 30);
        x.order(1, 1, 0);
        x.go(8);
        x.order(1, 1, 0);
        x.go(1);
        Due.is("steams", x.cup(0, 6), 9);
        Due.is("is ground", x.cup(1, 6), 3);
        x.fault(0, 200);
        x.go(2);
        Due.is("steams on", x.cup(0, 6), 7);
        Due.is("is ground on", x.cup(1, 6), 1);
        x.go(7);
        Due.is("done", x.cup(0, 0), 6);
        Due.is("lies", x.cup(1, 0), 2);
    }

    /** "in place of what is left of another one". */
    private static void inPlaceOfWhatIsLeft() {
        for (int n : new int[] {1, 6, 7, 8, 200}) {
            CupByCup x = new CupByCup(1, 30);
            x.fault(0, 10);
            x.go(3);
            Due.is("left", x.group(0, 3), 7);
            Due.yes("fault(0, " + n + ")", x.fault(0, n));
            Due.is("ticks of it", x.group(0, 3), n);
            x.go(1);
            Due.is("ticks of it", x.group(0, 3), n - 1);
        }
    }

    /** DUE tells of cups since a rinse: a fault of what brews takes none of them back. */
    private static void dueStays() {
        CupByCup x = Due.full(1, 30);
        x.recipe(Due.what(5, 1, 30, 0), Due.wet(10, 0));
        x.order(2, 1, 0);
        x.go(2);
        for (int due = 1; due <= 9; due++) {
            Due.is("due", x.group(0, 2), due);
            x.fault(0, 1);
            Due.is("due by a fault", x.group(0, 2), due);
            x.go(2);
        }
        Due.is("due", x.group(0, 2), 10);
        Due.is("brews", x.group(0, 0), 1);
        x.fault(0, 1);
        x.go(1);
        Due.is("rinses, though a cup waited", x.group(0, 0), 2);
    }
}
