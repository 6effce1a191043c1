/** The heat and the clock: (3) and (4) of the part "==== 2." of the document, at their edges. */
public final class EdgesOfHeatTest {
    private static final int SLOWLY_BREWED = Due.what(5, 1, 30, 0);
    private static final int SLOWLY_STEAMED = Due.what(5, 1, 1, 20);

    public static void main(String[] args) {
        heatedIfBelow950();
        heatedIfSixAreLeft();
        coolingOfGroupsThatBrew();
        coolingOfSteam();
        aRinseDoesNotCool();
        grindingDoesNotCool();
        whatBeginsCoolsInItsTick();
        whatEndsDoesNotCool();
        hotAheadOfTheCoolingOfThisTick();
        nowIsOneMore();
        manyTicksAtOnceAreLikeOnes();
        Due.end();
    }

    /** By how much the heat is more behind a tick. */
    private static int tick(CupByCup x) {
        int before = x.count(1);
        x.go(1);
        return x.count(1) - before;
    }

    /** "1 less; .. then, if it is below 950, .. 14 more": 952, 951 and 950 are 951, 950, 963. */
    private static void heatedIfBelow950() {
        CupByCup x = new CupByCup(1, 30);
        x.go(4);
        Due.is("heat", x.count(1), 952);
        Due.is("1 less is 951", tick(x), -1);
        Due.is("1 less is 950, not below it", tick(x), -1);
        Due.is("1 less is 949, below it", tick(x), 13);
        Due.is("heat", x.count(1), 963);
    }

    /** "and 6 of the LIMIT are left": of all limits, while 0, 2, 3, 4 and 6 of power go. */
    private static void heatedIfSixAreLeft() {
        for (int limit = 6; limit <= 30; limit++) {
            CupByCup idle = Due.full(1, limit);
            Due.is("idle, limit " + limit, tick(idle), 13);

            CupByCup grinds = Due.full(1, limit);
            grinds.order(0, 1, 0);
            Due.is("4 go, limit " + limit, tick(grinds), limit >= 10 ? 13 : -1);

            CupByCup brews = Due.full(1, 30);
            brews.order(0, 1, 0);
            brews.go(2);
            brews.limit(limit);
            Due.is("2 go, limit " + limit, tick(brews), limit >= 8 ? 8 : -6);

            CupByCup both = Due.full(1, 30);
            both.order(0, 2, 0);
            both.go(2);
            both.limit(limit);
            Due.is("6 go, limit " + limit, tick(both), limit >= 12 ? 8 : -6);

            CupByCup steams = Due.full(1, 8);
            steams.order(1, 1, 0);
            steams.go(7);
            steams.limit(limit);
            Due.is("3 go, limit " + limit, tick(steams), limit >= 9 ? 5 : -9);
        }
    }

    /** "5 less for each GROUP that BREWS": at limit 6 nothing is heated while one brews. */
    private static void coolingOfGroupsThatBrew() {
        CupByCup x = Due.full(3, 30);
        x.recipe(SLOWLY_BREWED, Due.wet(10, 0));
        x.order(2, 3, 0);
        x.go(4);
        x.limit(6);
        for (int brewing = 3; brewing >= 0; brewing--) {
            Due.is("power", x.count(2), 2 * brewing);
            Due.is("groups that brew: " + brewing, tick(x), brewing == 0 ? 13 : -1 - 5 * brewing);
            if (brewing > 0) {
                x.fault(brewing - 1, 200);
                x.take(brewing - 1);
            }
        }
    }

    /** "8 less for STEAM"; it is not heated at limit 8, as 3 of power go. */
    private static void coolingOfSteam() {
        CupByCup x = Due.full(1, 8);
        x.recipe(SLOWLY_STEAMED, Due.wet(10, 0));
        x.order(2, 1, 0);
        x.go(2);
        for (int i = 0; i < 20; i++) {
            Due.is("it steams", tick(x), -9);
            Due.is("ticks to go", x.cup(0, 6), 20 - i);
        }
        Due.is("it is done", tick(x), 13);
    }

    private static void aRinseDoesNotCool() {
        for (int limit = 7; limit <= 8; limit++) {
            CupByCup x = Due.full(1, 30);
            x.recipe(Due.what(5, 1, 1, 0), Due.wet(10, 0));
            x.order(2, 5, 0);
            x.go(7);
            Due.is("it rinses", x.group(0, 0), 2);
            Due.is("below 950", x.count(1) < 950 ? 1 : 0, 0);
            x.limit(limit);
            x.go(x.count(1) - 950);
            x.fault(0, 1);
            Due.is("it rinses anew at 950, limit " + limit, tick(x), limit == 8 ? 13 : -1);
            Due.is("ticks to go", x.group(0, 1), 6);
        }
    }

    private static void grindingDoesNotCool() {
        CupByCup x = Due.full(1, 9);
        x.order(1, 1, 0);
        for (int i = 0; i < 3; i++) {
            Due.is("it is ground", tick(x), -1);
            Due.is("ticks to go", x.cup(0, 6), 3 - i);
        }
    }

    /** A brew that begins and steam that begins cool from that tick on. */
    private static void whatBeginsCoolsInItsTick() {
        CupByCup x = Due.full(1, 7);
        x.order(1, 1, 0);
        x.go(3);
        Due.is("it brews from this tick on", tick(x), -6);
        Due.is("ticks to go", x.cup(0, 6), 4);
        x.go(3);
        Due.is("it steams from this tick on", tick(x), -9);
        Due.is("ticks to go", x.cup(0, 6), 10);
    }

    private static void whatEndsDoesNotCool() {
        CupByCup x = Due.full(1, 7);
        x.order(0, 1, 0);
        x.go(4);
        Due.is("its last tick", tick(x), -6);
        Due.is("ticks to go", x.cup(0, 6), 1);
        Due.is("it is done", tick(x), 13);
        Due.is("how it is", x.cup(0, 0), 6);
    }

    /** At 880 both groups begin, though each of them cools the boiler in this tick. */
    private static void hotAheadOfTheCoolingOfThisTick() {
        for (int heat = 879; heat <= 880; heat++) {
            CupByCup x = Due.stocked(3, 6, 1000, 1000, 0);
            x.recipe(Due.what(5, 9, 30, 0), Due.wet(10, 0));
            x.order(0, 3, 0);
            for (int group = 0; group < 3; group++) {
                x.fault(group, 900 - heat + 1);
            }
            x.go(900 - heat);
            Due.is("heat", x.count(1), heat);
            Due.is("two lie", x.cup(0, 0) + x.cup(1, 0), 4);
            x.limit(9);
            x.go(1);
            Due.is("the first one at " + heat, x.cup(0, 0), heat >= 880 ? 3 : 2);
            Due.is("the second one at " + heat, x.cup(1, 0), heat >= 880 ? 3 : 2);
            Due.is("heat behind " + heat, x.count(1), heat >= 880 ? heat - 11 : heat - 1);
        }
    }

    /** "(4) NOW is one more." */
    private static void nowIsOneMore() {
        for (int n : new int[] {0, 1, 2, 499, 500}) {
            CupByCup x = new CupByCup(1, 30);
            Due.is("go(" + n + ")", x.go(n), n);
            Due.is("NOW", x.count(0), n);
            Due.is("go(" + n + ") again", x.go(n), 2 * n);
        }
    }

    private static void manyTicksAtOnceAreLikeOnes() {
        for (int n : new int[] {0, 1, 8, 48, 108, 308}) {
            CupByCup atOnce = Due.full(2, 12);
            CupByCup oneByOne = Due.full(2, 12);
            for (CupByCup x : new CupByCup[] {atOnce, oneByOne}) {
                x.order(0, 6, 1);
                x.order(1, 6, 0);
                x.fault(1, 33);
            }
            atOnce.go(n);
            for (int i = 0; i < n; i++) {
                oneByOne.go(1);
            }
            Due.same("behind " + n + " ticks", atOnce, oneByOne);
        }
    }
}
