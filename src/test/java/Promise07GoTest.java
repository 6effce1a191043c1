public final class Promise07GoTest {
    public static void main(String[] args) {
        howFarItGoes();
        aPlainCup();
        aMilkyCup();
        groundsLieThirtyTicks();
        waterInTimeSavesGrounds();
        lanesAndBeans();
        fewerLieGroundThanGroups();
        milkOfTheLeastNumber();
        waterOfTheLeastNumber();
        powerGoesToSteamFirst();
        powerGoesToRinsesAheadOfBrews();
        powerGoesToBrewsAheadOfGrinding();
        rinseThatMustBe();
        rinseThatMayBe();
        noRinseWhileACupWaits();
        brewsOnlyWhenHot();
        heatOfAnIdleMachine();
        heatHasNoFloor();
        Due.end();
    }

    private static void howFarItGoes() {
        CupByCup x = new CupByCup(1, 30);
        Due.is("go(0)", x.go(0), 0);
        Due.is("heat behind go(0)", x.count(1), 900);
        Due.is("go(-1)", x.go(-1), -1);
        Due.is("go(501)", x.go(501), -1);
        Due.is("go(MIN)", x.go(Integer.MIN_VALUE), -1);
        Due.is("go(MAX)", x.go(Integer.MAX_VALUE), -1);
        Due.is("NOW", x.count(0), 0);
        for (int i = 1; i <= 39; i++) {
            Due.is("go(500)", x.go(500), i * 500);
        }
        Due.is("go(499)", x.go(499), 19999);
        Due.is("go(500) at 19999", x.go(500), 20000);
        int heat = x.count(1);
        Due.is("go(1) at 20000", x.go(1), 20000);
        Due.is("heat as it was", x.count(1), heat);
        Due.is("go(0) at 20000", x.go(0), 20000);
        Due.is("go(501) at 20000", x.go(501), -1);
    }

    /** A row of how the cup is, its ticks to go, the power that goes and the heat, tick by tick. */
    private static void follow(String name, CupByCup x, int[][] due) {
        for (int i = 0; i < due.length; i++) {
            x.go(1);
            String tick = name + ", behind tick " + i;
            Due.is(tick + ": how it is", x.cup(0, 0), due[i][0]);
            Due.is(tick + ": ticks to go", x.cup(0, 6), due[i][1]);
            Due.is(tick + ": power", x.count(2), due[i][2]);
            Due.is(tick + ": heat", x.count(1), due[i][3]);
        }
    }

    private static void aPlainCup() {
        CupByCup x = Due.full(1, 30);
        x.order(0, 1, 0);
        int[][] due = {
            {1, 2, 4, 913}, {1, 1, 4, 926},
            {3, 3, 2, 934}, {3, 2, 2, 942}, {3, 1, 2, 950},
            {6, -1, 0, 963}, {6, -1, 0, 962}, {6, -1, 0, 961},
        };
        follow("plain", x, due);
        Due.is("done in tick", x.cup(0, 4), 5);
        Due.is("beans", x.count(6), 9990);
        Due.is("water", x.count(7), 9950);
        Due.is("milk", x.count(8), 10000);
    }

    private static void aMilkyCup() {
        CupByCup x = Due.full(1, 8);
        x.order(1, 1, 0);
        int[][] due = {
            {1, 3, 4, 899}, {1, 2, 4, 898}, {1, 1, 4, 897},
            {3, 4, 2, 905}, {3, 3, 2, 913}, {3, 2, 2, 921}, {3, 1, 2, 929},
            {5, 10, 3, 920}, {5, 9, 3, 911}, {5, 8, 3, 902}, {5, 7, 3, 893}, {5, 6, 3, 884},
            {5, 5, 3, 875}, {5, 4, 3, 866}, {5, 3, 3, 857}, {5, 2, 3, 848}, {5, 1, 3, 839},
            {6, -1, 0, 852}, {6, -1, 0, 865},
        };
        follow("milky", x, due);
        Due.is("done in tick", x.cup(0, 4), 17);
        Due.is("beans", x.count(6), 9988);
        Due.is("water", x.count(7), 9940);
        Due.is("milk", x.count(8), 9920);
    }

    private static void groundsLieThirtyTicks() {
        CupByCup x = Due.empty(1, 30);
        x.store(0, 15);
        x.order(0, 1, 0);
        x.go(32);
        Due.is("it lies since tick 2", x.cup(0, 0), 2);
        Due.is("not thrown away yet", x.cup(0, 7), 0);
        x.go(1);
        Due.is("it waits again", x.cup(0, 0), 0);
        Due.is("thrown away", x.cup(0, 7), 1);
        Due.is("beans spoilt", x.count(9), 10);
        x.store(0, 10);
        x.go(1);
        Due.is("it is ground again", x.cup(0, 0), 1);
        Due.is("beans", x.count(6), 5);
        x.store(0, 10);
        x.go(31);
        Due.is("it lies since tick 35", x.cup(0, 0), 2);
        x.go(1);
        Due.is("thrown away and ground again in one tick", x.cup(0, 0), 1);
        Due.is("thrown away", x.cup(0, 7), 2);
        Due.is("beans spoilt", x.count(9), 20);
    }

    private static void waterInTimeSavesGrounds() {
        for (int late = 0; late < 2; late++) {
            CupByCup x = Due.empty(1, 30);
            x.store(0, 10);
            x.order(0, 1, 0);
            x.go(31 + late);
            x.store(1, 50);
            x.go(1);
            Due.is("water ahead of tick " + (31 + late), x.cup(0, 0), late == 0 ? 3 : 0);
            Due.is("water", x.count(7), late == 0 ? 0 : 50);
        }
    }

    private static void lanesAndBeans() {
        CupByCup x = Due.empty(1, 30);
        x.store(1, 1000);
        x.order(0, 1, 1);
        x.order(1, 2, 0);
        x.store(0, 11);
        x.go(1);
        Due.is("lane 0 lacks a gram of beans", x.count(2), 0);
        Due.is("so lane 1 waits too", x.cup(0, 0), 0);
        x.store(0, 1);
        x.go(1);
        Due.is("lane 0, least number", x.cup(1, 0), 1);
        Due.is("lane 0, other number", x.cup(2, 0), 0);
        Due.is("beans", x.count(6), 0);
        x.store(0, 100);
        x.go(3);
        Due.is("lane 0, other number, behind it", x.cup(2, 0), 1);
        x.go(4);
        Due.is("lane 1 at last", x.cup(0, 0), 1);
    }

    private static void fewerLieGroundThanGroups() {
        for (int groups = 1; groups <= 3; groups++) {
            CupByCup x = Due.full(groups, 30);
            for (int group = 0; group < groups; group++) {
                x.fault(group, 200);
            }
            x.order(0, 6, 0);
            x.go(20);
            int lying = 0;
            for (int cup = 0; cup < 6; cup++) {
                lying += x.cup(cup, 0) == 2 ? 1 : 0;
            }
            Due.is("cups that lie, groups " + groups, lying, groups);
            Due.is("cups that wait", x.count(5), 6 - groups);
            Due.is("power", x.count(2), 0);
        }
    }

    private static void milkOfTheLeastNumber() {
        CupByCup x = Due.empty(1, 30);
        x.recipe(Due.MILKY, 60010);
        x.store(0, 1000);
        x.store(1, 1000);
        x.store(2, 79);
        x.order(1, 1, 0);
        x.order(2, 1, 0);
        x.go(30);
        Due.is("the least number lacks a gram", x.cup(0, 0), 4);
        Due.is("so the other one isn't steamed", x.cup(1, 0), 4);
        x.store(2, 1);
        x.go(1);
        Due.is("the least number steams", x.cup(0, 0), 5);
        Due.is("one wand, one cup", x.cup(1, 0), 4);
        Due.is("milk", x.count(8), 0);
        x.store(2, 10);
        x.go(10);
        Due.is("done", x.cup(0, 0), 6);
        Due.is("the other one in the same tick", x.cup(1, 0), 5);
        Due.is("its ticks", x.cup(1, 6), 10);
    }

    private static void waterOfTheLeastNumber() {
        CupByCup x = Due.empty(2, 30);
        x.recipe(Due.PLAIN, 10000);
        x.store(0, 1000);
        x.store(1, 49);
        x.order(0, 1, 0);
        x.order(2, 1, 0);
        x.go(10);
        Due.is("the least number lacks a gram", x.cup(0, 0), 2);
        Due.is("so the other one isn't brewed", x.cup(1, 0), 2);
        x.store(1, 1);
        x.go(1);
        Due.is("the least number brews", x.cup(0, 5), 0);
        Due.is("no water is left", x.cup(1, 0), 2);
        x.store(1, 10);
        x.go(1);
        Due.is("the other one brews", x.cup(1, 5), 1);
        Due.is("water", x.count(7), 0);
    }

    /** At limit 6 a cup that is brewed, one that lies ground and one that waits all want power. */
    private static void powerGoesToSteamFirst() {
        CupByCup x = Due.empty(1, 6);
        x.store(0, 1000);
        x.store(1, 60);
        x.order(1, 1, 0);
        x.go(10);
        Due.is("brewed", x.cup(0, 0), 4);
        x.order(0, 1, 0);
        x.go(5);
        Due.is("lies ground", x.cup(1, 0), 2);
        x.store(1, 1000);
        x.store(2, 80);
        x.order(0, 1, 0);
        x.go(1);
        Due.is("the brewed one steams", x.cup(0, 0), 5);
        Due.is("5 of 6: the ground one brews", x.cup(1, 0), 3);
        Due.is("none is ground", x.cup(2, 0), 0);
        Due.is("power", x.count(2), 5);
        x.go(3);
        Due.is("4 more would be 7", x.cup(2, 0), 0);
        x.go(7);
        Due.is("steamed, so it is ground", x.cup(2, 0), 1);
    }

    /** At limit 6 a cup is ground (4): one group would rinse, the other would brew. */
    private static void powerGoesToRinsesAheadOfBrews() {
        CupByCup x = Due.full(2, 30);
        x.recipe(5101000, 10000);
        x.recipe(5901000, 10000);
        x.fault(1, 200);
        x.order(2, 6, 0);
        x.order(2, 4, 0);
        x.go(12);
        Due.is("due of group 0", x.group(0, 2), 10);
        Due.is("it rinses", x.group(0, 0), 2);
        x.fault(0, 4);
        x.fault(1, 4);
        x.order(2, 1, 0);
        x.order(3, 1, 0);
        x.limit(6);
        x.go(3);
        Due.is("one lies ground", x.cup(10, 0), 2);
        Due.is("one is ground now", x.cup(11, 0), 1);
        x.go(1);
        Due.is("group 0 rinses", x.group(0, 0), 2);
        Due.is("no power for group 1", x.group(1, 0), 0);
        Due.is("power", x.count(2), 6);
    }

    private static void powerGoesToBrewsAheadOfGrinding() {
        CupByCup x = Due.full(3, 7);
        x.recipe(5130000, 10000);
        x.go(3);
        x.order(2, 3, 0);
        x.go(2);
        Due.is("first one brews", x.cup(0, 0), 3);
        Due.is("6 of 7: second one is ground", x.cup(1, 0), 1);
        x.go(1);
        Due.is("second one brews", x.cup(1, 0), 3);
        Due.is("4 of 7: no grinding", x.cup(2, 0), 0);
        x.limit(8);
        x.go(1);
        Due.is("8 of 8", x.cup(2, 0), 1);
        Due.is("power", x.count(2), 8);
        x.go(1);
        Due.is("third one brews in group 2", x.cup(2, 5), 2);
    }

    private static void rinseThatMustBe() {
        CupByCup x = Due.empty(1, 30);
        x.recipe(5101000, 10000);
        x.store(0, 1000);
        x.store(1, 119);
        x.order(2, 6, 0);
        x.order(2, 6, 0);
        x.go(11);
        Due.is("due", x.group(0, 2), 10);
        Due.is("brews", x.group(0, 0), 1);
        Due.is("the tenth cup", x.cup(9, 0), 3);
        x.go(1);
        Due.is("19 grams are too few for a rinse", x.group(0, 0), 0);
        Due.is("and no cup is brewed", x.cup(10, 0), 2);
        x.store(1, 1);
        x.go(1);
        Due.is("rinses", x.group(0, 0), 2);
        Due.is("ticks to go", x.group(0, 1), 6);
        Due.is("due until it is done", x.group(0, 2), 10);
        Due.is("water", x.count(7), 0);
        Due.is("power", x.count(2), 2);
        Due.is("rinses done", x.count(10), 0);
        x.store(1, 1000);
        x.go(5);
        Due.is("rinses yet", x.group(0, 1), 1);
        Due.is("a rinse takes no heat", x.count(1), 958);
        x.go(1);
        Due.is("brews in the tick in which the rinse ends", x.cup(10, 0), 3);
        Due.is("due", x.group(0, 2), 1);
        Due.is("rinses done", x.count(10), 1);
    }

    private static void rinseThatMayBe() {
        for (int cups = 4; cups <= 5; cups++) {
            CupByCup x = Due.full(1, 30);
            x.recipe(5101000, 10000);
            x.order(2, cups, 0);
            x.go(cups + 1);
            Due.is("all are brewed", x.cup(cups - 1, 0), 3);
            x.go(1);
            Due.is("rinse behind " + cups, x.group(0, 0), cups == 5 ? 2 : 0);
            x.go(6);
            Due.is("due behind " + cups, x.group(0, 2), cups == 5 ? 0 : 4);
            Due.is("rinses done behind " + cups, x.count(10), cups == 5 ? 1 : 0);
        }
    }

    private static void noRinseWhileACupWaits() {
        CupByCup x = Due.empty(1, 30);
        x.recipe(5101000, 10000);
        x.store(0, 25);
        x.store(1, 1000);
        x.order(2, 6, 0);
        x.go(30);
        Due.is("one lacks beans and waits", x.count(5), 1);
        Due.is("due", x.group(0, 2), 5);
        Due.is("no rinse", x.count(10), 0);
        x.take(5);
        x.go(1);
        Due.is("none waits: a rinse", x.group(0, 0), 2);

        CupByCup lying = Due.empty(1, 30);
        lying.recipe(5101000, 10000);
        lying.recipe(5101000, 250000);
        lying.store(0, 1000);
        lying.store(1, 100);
        lying.order(2, 5, 0);
        lying.order(3, 1, 0);
        lying.go(20);
        Due.is("one lacks water and lies", lying.cup(5, 0), 2);
        Due.is("no rinse while it lies", lying.group(0, 0), 0);

        CupByCup grinding = Due.full(1, 30);
        grinding.recipe(5101000, 10000);
        grinding.order(2, 5, 0);
        grinding.go(6);
        grinding.order(1, 1, 0);
        grinding.fault(0, 1);
        grinding.take(4);
        grinding.fault(0, 2);
        grinding.go(2);
        Due.is("one is ground now", grinding.cup(5, 0), 1);
        Due.is("that holds up no rinse", grinding.group(0, 0), 2);
    }

    /** Heat falls by 1 a tick while cups are ground at limit 6; the faults end as it is 880 or 879. */
    private static void brewsOnlyWhenHot() {
        for (int late = 0; late < 2; late++) {
            CupByCup x = new CupByCup(3, 6);
            x.recipe(10930000, 50000);
            x.store(0, 1000);
            x.store(1, 1000);
            x.order(0, 3, 0);
            for (int group = 0; group < 3; group++) {
                x.fault(group, group == 0 ? 21 + late : 200);
            }
            x.go(20 + late);
            Due.is("heat", x.count(1), 880 - late);
            Due.is("lies ground", x.cup(0, 0), 2);
            x.go(1);
            Due.is("no fault", x.group(0, 3), 0);
            Due.is("begins at " + (880 - late), x.cup(0, 0), late == 0 ? 3 : 2);
            if (late == 1) {
                x.go(6);
                Due.is("nothing goes on: it is heated", x.count(1), 886);
                Due.is("but brewing begins behind that", x.cup(0, 0), 2);
                x.go(1);
                Due.is("hot again", x.cup(0, 0), 3);
            }
        }
    }

    private static void heatOfAnIdleMachine() {
        CupByCup x = new CupByCup(2, 6);
        int[] due = {913, 926, 939, 952, 951, 950, 963, 962};
        for (int i = 0; i < due.length; i++) {
            x.go(1);
            Due.is("heat behind tick " + i, x.count(1), due[i]);
        }
    }

    /** Three groups brew, then three cups are steamed, and there is never power to heat. */
    private static void heatHasNoFloor() {
        CupByCup x = new CupByCup(3, 10);
        x.recipe(5130200, 10000);
        x.store(0, 1000);
        x.store(1, 1000);
        x.order(0, 3, 0);
        x.go(4);
        Due.is("heat as the third one brews", x.count(1), 880);
        x.limit(8);
        x.go(27);
        Due.is("heat as the first one is brewed", x.count(1), 448);
        x.go(60);
        Due.is("heat as the last one is steamed", x.count(1), -107);
        x.go(1);
        Due.is("heat behind that", x.count(1), -94);
        Due.is("all are done", x.count(4), 3);
    }
}
