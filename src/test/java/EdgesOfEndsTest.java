/** What is over in a tick: (1) of the part "==== 2." of the document, at its edges. */
public final class EdgesOfEndsTest {
    public static void main(String[] args) {
        grindingEnds();
        brewingEndsWithoutSteam();
        brewingEndsWithSteam();
        steamingEnds();
        rinsingEnds();
        endsOfOneTick();
        groundsThatLieThirtyTicks();
        waterAtTheLastMoment();
        aGroupAtTheLastMoment();
        eachCupLiesByItself();
        itLiesAnew();
        thrownAwayItWaitsInItsPlace();
        thrownAwayAreTheBeansItCameWith();
        Due.end();
    }

    /** Ticks to go of cup 0, from all of them down to 1, then how it is. */
    private static void counted(String name, CupByCup x, int ticks, int how, int howBehind) {
        for (int left = ticks; left >= 1; left--) {
            Due.is(name + " of " + ticks + ": how it is with " + left, x.cup(0, 0), how);
            Due.is(name + " of " + ticks + ": ticks to go", x.cup(0, 6), left);
            x.go(1);
        }
        Due.is(name + " of " + ticks + ": how it is behind", x.cup(0, 0), howBehind);
        Due.is(name + " of " + ticks + ": nothing goes on", x.cup(0, 6), -1);
    }

    private static CupByCup oneCup(int what, int wet) {
        CupByCup x = Due.stocked(1, 30, 1000, 1000, 1000);
        x.recipe(what, wet);
        x.order(0, 1, 0);
        return x;
    }

    /** "GRINDING: the CUP lies GROUND". */
    private static void grindingEnds() {
        for (int ticks : new int[] {1, 2, 8, 9}) {
            CupByCup x = oneCup(Due.what(10, ticks, 3, 0), Due.wet(50, 0));
            x.fault(0, 200);
            x.go(1);
            counted("grinding", x, ticks, 1, 2);
            Due.is("the grinder is free", x.count(2), 0);
        }
    }

    /** "BREWING: it is BREWED, or DONE, if its RECIPE has no STEAM". */
    private static void brewingEndsWithoutSteam() {
        for (int ticks : new int[] {1, 2, 29, 30}) {
            CupByCup x = oneCup(Due.what(10, 1, ticks, 0), Due.wet(50, 0));
            x.go(2);
            counted("brewing without steam", x, ticks, 3, 6);
            Due.is("done in", x.cup(0, 4), 1 + ticks);
            Due.is("the group is free", x.group(0, 0), 0);
        }
    }

    private static void brewingEndsWithSteam() {
        for (int ticks : new int[] {1, 2, 29, 30}) {
            CupByCup x = Due.stocked(1, 30, 1000, 1000, 0);
            x.recipe(Due.what(10, 1, ticks, 1), Due.wet(50, 1));
            x.order(0, 1, 0);
            x.go(2);
            counted("brewing with steam", x, ticks, 3, 4);
            Due.is("not done", x.cup(0, 4), -1);
            Due.is("the group is free", x.group(0, 0), 0);
        }
    }

    /** "STEAMING: DONE". */
    private static void steamingEnds() {
        for (int ticks : new int[] {1, 2, 19, 20}) {
            CupByCup x = oneCup(Due.what(10, 1, 1, ticks), Due.wet(50, 0));
            x.go(3);
            counted("steaming", x, ticks, 5, 6);
            Due.is("done in", x.cup(0, 4), 2 + ticks);
            Due.is("the wand is free", x.count(2), 0);
        }
    }

    /** "RINSING": it is over behind 6 ticks, not behind 5. */
    private static void rinsingEnds() {
        CupByCup x = Due.stocked(1, 30, 1000, 1000, 0);
        x.recipe(Due.what(5, 1, 1, 0), Due.wet(10, 0));
        x.order(0, 5, 0);
        x.go(7);
        for (int left = 6; left >= 1; left--) {
            Due.is("rinses with " + left, x.group(0, 0), 2);
            Due.is("ticks to go", x.group(0, 1), left);
            Due.is("not done with " + left, x.count(10), 0);
            x.go(1);
        }
        Due.is("free", x.group(0, 0), 0);
        Due.is("ticks to go", x.group(0, 1), 0);
        Due.is("done", x.count(10), 1);
        Due.is("due", x.group(0, 2), 0);
    }

    /** Grinding, brewing and steaming of like length end in one tick, and others begin in it. */
    private static void endsOfOneTick() {
        CupByCup x = Due.stocked(1, 30, 1000, 1000, 1000);
        x.recipe(Due.what(10, 3, 3, 3), Due.wet(50, 60));
        x.order(0, 4, 0);
        for (int round = 0; round < 4; round++) {
            x.go(1);
            for (int cup = 0; cup < 4; cup++) {
                int[] how = {0, 1, 3, 5, 6};
                int due = how[Math.max(0, Math.min(4, round - cup + 1))];
                Due.is("cup " + cup + " in round " + round, x.cup(cup, 0), due);
                Due.is("its ticks", x.cup(cup, 6), due == 0 || due == 6 ? -1 : 3);
            }
            x.go(2);
        }
    }

    /** "A CUP that lies GROUND for 30 TICKS (since it lies) is thrown away: it WAITS again." */
    private static void groundsThatLieThirtyTicks() {
        for (int grind : new int[] {1, 9}) {
            for (int ticks = 29; ticks <= 31; ticks++) {
                CupByCup x = Due.stocked(1, 30, 10, 0, 0);
                x.recipe(Due.what(10, grind, 3, 0), Due.wet(50, 0));
                x.order(0, 1, 0);
                x.go(grind + 1);
                Due.is("it lies", x.cup(0, 0), 2);
                x.go(ticks);
                Due.is("how it is behind " + ticks, x.cup(0, 0), ticks < 30 ? 2 : 0);
                Due.is("thrown away behind " + ticks, x.cup(0, 7), ticks < 30 ? 0 : 1);
                Due.is("beans spoilt behind " + ticks, x.count(9), ticks < 30 ? 0 : 10);
                Due.is("cups that wait behind " + ticks, x.count(5), ticks < 30 ? 0 : 1);
            }
        }
    }

    /** It lies since tick 1: water is in time for tick 30, not for tick 31. */
    private static void waterAtTheLastMoment() {
        for (int tick = 29; tick <= 32; tick++) {
            CupByCup x = Due.stocked(1, 30, 10, 49, 0);
            x.recipe(Due.what(10, 1, 3, 0), Due.wet(50, 0));
            x.order(0, 1, 0);
            x.go(tick);
            x.store(1, 1);
            x.go(1);
            Due.is("water for tick " + tick, x.cup(0, 0), tick <= 30 ? 3 : 0);
            Due.is("thrown away", x.cup(0, 7), tick <= 30 ? 0 : 1);
        }
    }

    private static void aGroupAtTheLastMoment() {
        for (int tick = 29; tick <= 32; tick++) {
            CupByCup x = Due.stocked(1, 30, 10, 100, 0);
            x.recipe(Due.what(10, 1, 3, 0), Due.wet(50, 0));
            x.order(0, 1, 0);
            x.fault(0, tick + 1);
            x.go(tick + 1);
            Due.is("no fault from tick " + tick, x.group(0, 3), 0);
            Due.is("a group for tick " + tick, x.cup(0, 0), tick <= 30 ? 3 : 0);
        }
    }

    private static void eachCupLiesByItself() {
        CupByCup x = Due.stocked(2, 30, 20, 0, 0);
        x.recipe(Due.what(10, 2, 3, 0), Due.wet(50, 0));
        x.order(0, 2, 0);
        x.go(32);
        Due.is("the first one lies since tick 2", x.cup(0, 0), 2);
        Due.is("the second one since tick 4", x.cup(1, 0), 2);
        x.go(1);
        Due.is("the first one waits", x.cup(0, 0), 0);
        Due.is("the second one lies", x.cup(1, 0), 2);
        x.go(1);
        Due.is("the second one lies yet", x.cup(1, 0), 2);
        x.go(1);
        Due.is("the second one waits", x.cup(1, 0), 0);
        Due.is("beans spoilt", x.count(9), 20);
    }

    /** Thrown away in tick 31 and ground again at once, it lies since tick 32 till tick 62. */
    private static void itLiesAnew() {
        CupByCup x = Due.stocked(1, 30, 20, 0, 0);
        x.recipe(Due.what(10, 1, 3, 0), Due.wet(50, 0));
        x.order(0, 1, 0);
        x.go(32);
        Due.is("ground again in the same tick", x.cup(0, 0), 1);
        Due.is("its beans go again", x.count(6), 0);
        x.go(30);
        Due.is("it lies behind tick 61", x.cup(0, 0), 2);
        Due.is("thrown away once", x.cup(0, 7), 1);
        x.go(1);
        Due.is("it waits behind tick 62", x.cup(0, 0), 0);
        Due.is("thrown away twice", x.cup(0, 7), 2);
        Due.is("beans spoilt", x.count(9), 20);
        x.go(200);
        Due.is("without beans it waits on", x.cup(0, 7), 2);
    }

    private static void thrownAwayItWaitsInItsPlace() {
        for (int lane = 0; lane <= 1; lane++) {
            CupByCup x = Due.stocked(1, 30, 1000, 0, 0);
            x.recipe(Due.what(10, 1, 3, 0), Due.wet(50, 0));
            x.order(0, 1, lane);
            x.go(2);
            x.order(0, 1, 0);
            x.go(29);
            Due.is("the other one waits", x.cup(1, 0), 0);
            x.go(1);
            Due.is("ground anew, lane " + lane, x.cup(0, 0), lane == 0 ? 1 : 0);
            Due.is("the other one, in lane 0", x.cup(1, 0), lane == 0 ? 0 : 1);
            Due.is("its lane", x.cup(0, 2), lane);
            Due.is("it came in", x.cup(0, 3), 0);
        }
    }

    private static void thrownAwayAreTheBeansItCameWith() {
        CupByCup x = Due.stocked(1, 30, 1000, 0, 0);
        x.recipe(Due.what(10, 1, 3, 0), Due.wet(50, 0));
        x.order(0, 1, 0);
        x.go(2);
        x.alter(0, Due.what(30, 9, 3, 0), Due.wet(50, 0));
        x.go(30);
        Due.is("beans spoilt", x.count(9), 10);
        Due.is("beans that go again", x.count(6), 980);
        Due.is("ticks to grind again", x.cup(0, 6), 1);
    }
}
