/** The part "Terms" of the document, sentence by sentence: at each edge, inside and outside of it. */
public final class EdgesOfTermsTest {
    public static void main(String[] args) {
        nowIsATick();
        theLastTickThatGoes();
        nothingGoesBehindTheLastTick();
        groupsAreOneToThree();
        aLimitIsSixAtLeast();
        aLimitIsThirtyAtMost();
        heatAtFirst();
        hotIfNotBelow880();
        recipesAreEightAtMost();
        beansAreFiveToThirty();
        grindIsOneToNine();
        brewIsOneToThirty();
        steamIsNothingToTwenty();
        waterIsTenTo250();
        milkIsNothingTo250();
        milkIsNothingWithoutSteam();
        partsThatRunOver();
        storesAreEmptyAtFirst();
        cupsAreHundredAtMost();
        aCupKeepsItsRecipe();
        laneNothingIsAheadOfLaneOne();
        powerOfAllThatGoesOn();
        Due.end();
    }

    /** "TICKS are 0 .. 20000; NOW is one (0 at first)." */
    private static void nowIsATick() {
        CupByCup x = new CupByCup(1, 30);
        Due.is("NOW at first", x.count(0), 0);
        Due.goTo(x, 19999);
        Due.is("the last tick goes", x.go(1), 20000);
        Due.is("none goes behind it", x.go(1), 20000);
        Due.is("NOW", x.count(0), 20000);
    }

    /** A cup that comes at 19997 is done in tick 19999; one that comes later never is. */
    private static void theLastTickThatGoes() {
        for (int came = 19996; came <= 19998; came++) {
            CupByCup x = Due.stocked(1, 30, 100, 100, 0);
            x.recipe(Due.what(5, 1, 1, 0), Due.wet(10, 0));
            Due.goTo(x, came);
            x.order(0, 1, 0);
            Due.is("came in", x.cup(0, 3), came);
            Due.is("go(500)", x.go(500), 20000);
            Due.is("done, come in " + came, x.cup(0, 4), came <= 19997 ? came + 2 : -1);
            Due.is("how it is, come in " + came, x.cup(0, 0), came <= 19997 ? 6 : 3);
        }
    }

    private static void nothingGoesBehindTheLastTick() {
        CupByCup x = Due.full(1, 30);
        Due.goTo(x, 20000);
        Due.is("an order comes yet", x.order(0, 1, 0), 0);
        Due.is("in tick", x.cup(0, 3), 20000);
        Due.yes("a fault comes yet", x.fault(0, 7));
        String before = Due.seen(x);
        Due.is("go(500)", x.go(500), 20000);
        Due.is("go(0)", x.go(0), 20000);
        Due.yes("nothing is otherwise", Due.seen(x).equals(before));
    }

    /** "The machine has GROUPS 0 .. n - 1 (1 to 3)". */
    private static void groupsAreOneToThree() {
        for (int asked = -1; asked <= 5; asked++) {
            CupByCup x = new CupByCup(asked, 30);
            int due = Math.max(1, Math.min(3, asked));
            for (int group = -2; group <= 6; group++) {
                Due.is("group(" + group + ", 0) of " + asked, x.group(group, 0),
                        group >= 0 && group < due ? 0 : -1);
            }
        }
    }

    /** "a LIMIT of power (6 .. 30)": with 6 an idle machine is heated. */
    private static void aLimitIsSixAtLeast() {
        for (int limit = 4; limit <= 7; limit++) {
            CupByCup made = new CupByCup(1, limit);
            made.go(1);
            Due.is("heat of a machine made with " + limit, made.count(1), 913);
            CupByCup x = new CupByCup(1, 30);
            Due.is("limit(" + limit + ")", x.limit(limit) ? 1 : 0, limit >= 6 ? 1 : 0);
        }
    }

    private static void aLimitIsThirtyAtMost() {
        for (int limit = 29; limit <= 32; limit++) {
            CupByCup x = new CupByCup(1, 6);
            Due.is("limit(" + limit + ")", x.limit(limit) ? 1 : 0, limit <= 30 ? 1 : 0);
        }
    }

    private static void heatAtFirst() {
        Due.is("heat at first", new CupByCup(1, 30).count(1), 900);
    }

    /** "HOT if it isn't below 880": grinding at limit 6 cools by 1 a tick, the fault ends then. */
    private static void hotIfNotBelow880() {
        for (int heat = 878; heat <= 882; heat++) {
            CupByCup x = Due.stocked(3, 6, 1000, 1000, 0);
            x.recipe(Due.what(10, 9, 30, 0), Due.wet(50, 0));
            x.order(0, 3, 0);
            x.fault(0, 900 - heat + 1);
            x.fault(1, 200);
            x.fault(2, 200);
            x.go(900 - heat);
            Due.is("heat", x.count(1), heat);
            x.go(1);
            Due.is("fault", x.group(0, 3), 0);
            Due.is("brews at " + heat, x.cup(0, 0), heat >= 880 ? 3 : 2);
        }
    }

    /** "RECIPES have numbers as they come, at most 8". */
    private static void recipesAreEightAtMost() {
        CupByCup x = new CupByCup(1, 30);
        for (int i = 0; i < 8; i++) {
            Due.is("order ahead of recipe " + i, x.order(i, 1, 0), -1);
            Due.no("alter ahead of recipe " + i, x.alter(i, Due.PLAIN, Due.PLAIN_WET));
            Due.is("recipe", x.recipe(Due.PLAIN, Due.PLAIN_WET), i);
            Due.is("order of recipe " + i, x.order(i, 1, 0), i);
            Due.yes("alter of recipe " + i, x.alter(i, Due.MILKY, Due.MILKY_WET));
        }
        Due.is("a ninth recipe", x.recipe(Due.PLAIN, Due.PLAIN_WET), -1);
        Due.is("order of a ninth", x.order(8, 1, 0), -1);
        Due.no("alter of a ninth", x.alter(8, Due.PLAIN, Due.PLAIN_WET));
        Due.yes("alter of the eighth", x.alter(7, Due.PLAIN, Due.PLAIN_WET));
    }

    /** A recipe that can be is made of all that it names and of no gram less; another is refused. */
    private static void recipe(int[] parts, boolean canBe) {
        int what = Due.what(parts[0], parts[1], parts[2], parts[3]);
        int wet = Due.wet(parts[4], parts[5]);
        String name = what + ", " + wet;
        CupByCup asked = new CupByCup(1, 30);
        Due.is("recipe(" + name + ")", asked.recipe(what, wet), canBe ? 0 : -1);
        CupByCup altered = Due.full(1, 30);
        Due.is("alter(0, " + name + ")", altered.alter(0, what, wet) ? 1 : 0, canBe ? 1 : 0);
        if (canBe) {
            made(name, what, wet, parts);
        }
    }

    private static void made(String name, int what, int wet, int[] parts) {
        CupByCup x = Due.stocked(1, 30, parts[0], parts[4], parts[5]);
        x.recipe(what, wet);
        x.order(0, 1, 0);
        x.go(200);
        Due.is("done, " + name, x.cup(0, 4), parts[1] + parts[2] + parts[3]);
        for (int store = 6; store <= 8; store++) {
            Due.is("count(" + store + ") behind " + name, x.count(store), 0);
        }
        int[] grams = {parts[0], parts[4], parts[5]};
        for (int i = 0; i < 3; i++) {
            if (grams[i] > 0) {
                grams[i]--;
                CupByCup less = Due.stocked(1, 30, grams[0], grams[1], grams[2]);
                less.recipe(what, wet);
                less.order(0, 1, 0);
                less.go(200);
                Due.is("done, a gram less in " + i + ", " + name, less.cup(0, 4), -1);
                grams[i]++;
            }
        }
    }

    /** Of recipes that differ in one part alone. */
    private static void part(int which, int least, int most, int... tried) {
        for (int n : tried) {
            int[] parts = {10, 2, 3, 4, 50, 60};
            parts[which] = n;
            recipe(parts, n >= least && n <= most);
        }
    }

    private static void beansAreFiveToThirty() {
        part(0, 5, 30, 0, 4, 5, 6, 29, 30, 31, 99);
    }

    private static void grindIsOneToNine() {
        part(1, 1, 9, 0, 1, 2, 8, 9);
    }

    private static void brewIsOneToThirty() {
        part(2, 1, 30, 0, 1, 2, 29, 30, 31, 99);
    }

    private static void steamIsNothingToTwenty() {
        part(3, 1, 20, 1, 2, 19, 20, 21, 99);
        recipe(new int[] {10, 2, 3, 0, 50, 0}, true);
    }

    private static void waterIsTenTo250() {
        part(4, 10, 250, 0, 9, 10, 11, 249, 250, 251, 999);
    }

    private static void milkIsNothingTo250() {
        part(5, 0, 250, 0, 1, 249, 250, 251, 999);
    }

    /** "MILK (0 .. 250; 0 without STEAM)". */
    private static void milkIsNothingWithoutSteam() {
        recipe(new int[] {10, 2, 3, 0, 50, 0}, true);
        recipe(new int[] {10, 2, 3, 0, 50, 1}, false);
        recipe(new int[] {10, 2, 3, 0, 50, 250}, false);
        recipe(new int[] {10, 2, 3, 1, 50, 0}, true);
        recipe(new int[] {10, 2, 3, 1, 50, 1}, true);
    }

    /** A part above its digits runs over into the next one: it is read there, or can't be. */
    private static void partsThatRunOver() {
        CupByCup x = new CupByCup(1, 30);
        Due.is("grind 10 is grind 0", x.recipe(Due.what(10, 10, 3, 0), 50000), -1);
        Due.is("brew 100 is brew 0", x.recipe(Due.what(10, 2, 100, 0), 50000), -1);
        Due.is("milk 1000 is milk 0", x.recipe(Due.what(10, 2, 3, 0), 49000 + 1000), 0);
        Due.is("steam 100 is steam 0", x.recipe(Due.what(10, 2, 2, 100), 50000), 1);
        x.order(1, 1, 0);
        Due.is("and brew 3", x.sum(), 5);
    }

    private static void storesAreEmptyAtFirst() {
        CupByCup x = new CupByCup(1, 30);
        x.recipe(Due.what(5, 1, 1, 0), Due.wet(10, 0));
        x.order(0, 1, 0);
        x.go(5);
        Due.is("nothing is ground", x.cup(0, 0), 0);
        for (int store = 0; store < 3; store++) {
            Due.is("count(" + (6 + store) + ")", x.count(6 + store), 0);
            Due.is("store(" + store + ", 1)", x.store(store, 1), 1);
        }
    }

    /** "CUPS have numbers as they come, at most 100". */
    private static void cupsAreHundredAtMost() {
        for (int n = 1; n <= 6; n++) {
            CupByCup x = Due.empty(1, 30);
            for (int i = 0; i < 16; i++) {
                Due.is("order(0, 6, 0)", x.order(0, 6, 0), 6 * i);
            }
            Due.is("order of " + n + " behind 96", x.order(0, n, 0), n <= 4 ? 96 : -1);
            Due.is("cups", x.count(3), n <= 4 ? 96 + n : 96);
        }
        CupByCup x = Due.empty(1, 30);
        for (int cup = 0; cup < 99; cup++) {
            Due.is("order(0, 1, 0)", x.order(0, 1, 0), cup);
        }
        Due.is("two behind 99", x.order(0, 2, 0), -1);
        Due.is("the hundredth", x.order(0, 1, 0), 99);
        Due.is("one more", x.order(0, 1, 0), -1);
        Due.is("the hundredth waits", x.cup(99, 0), 0);
        Due.is("there is no other", x.cup(100, 0), -1);
    }

    /** "a RECIPE (as it is when the CUP comes)". */
    private static void aCupKeepsItsRecipe() {
        CupByCup x = Due.full(1, 30);
        x.order(0, 1, 0);
        x.alter(0, Due.what(30, 9, 30, 20), Due.wet(250, 250));
        x.order(0, 1, 0);
        x.alter(0, Due.what(5, 1, 1, 0), Due.wet(10, 0));
        x.order(0, 1, 0);
        x.go(2);
        Due.is("beans of the first", x.count(6), 9990);
        x.go(9);
        Due.is("beans of the second", x.count(6), 9960);
        Due.is("water of the first", x.count(7), 9950);
        x.go(500);
        Due.is("beans of all", x.count(6), 10000 - 10 - 30 - 5);
        Due.is("water of all", x.count(7), 10000 - 50 - 250 - 10);
        Due.is("milk of all", x.count(8), 10000 - 250);
    }

    private static void laneNothingIsAheadOfLaneOne() {
        for (int lane = 0; lane <= 1; lane++) {
            CupByCup x = Due.full(1, 30);
            x.order(0, 1, lane);
            x.order(0, 1, 0);
            x.go(1);
            Due.is("ground, come in lane " + lane, x.cup(0, 0), lane == 0 ? 1 : 0);
            Due.is("ground, come behind it in lane 0", x.cup(1, 0), lane == 0 ? 0 : 1);
        }
    }

    /** "GRINDING takes 4, each GROUP that BREWS or RINSES 2, STEAMING 3." */
    private static void powerOfAllThatGoesOn() {
        CupByCup x = Due.full(3, 30);
        x.recipe(Due.what(5, 1, 30, 20), Due.wet(10, 0));
        Due.is("nothing goes on", x.count(2), 0);
        x.order(2, 3, 0);
        int[] due = {4, 6, 8, 6};
        for (int i = 0; i < due.length; i++) {
            x.go(1);
            Due.is("power behind tick " + i, x.count(2), due[i]);
        }
        x.go(28);
        Due.is("the first one steams, two brew", x.count(2), 7);
        x.go(2);
        Due.is("the others are brewed", x.count(2), 3);
        x.order(0, 1, 0);
        x.go(1);
        Due.is("steam and grinding", x.count(2), 7);

        CupByCup rinse = Due.full(1, 30);
        rinse.recipe(Due.what(5, 1, 1, 0), Due.wet(10, 0));
        rinse.order(2, 5, 0);
        rinse.go(7);
        Due.is("it rinses", rinse.group(0, 0), 2);
        Due.is("power of a rinse", rinse.count(2), 2);
        rinse.go(6);
        Due.is("behind the rinse", rinse.count(2), 0);
    }
}
