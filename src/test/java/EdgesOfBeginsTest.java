/** What begins in a tick: (2) of the part "==== 2." of the document, at its edges. */
public final class EdgesOfBeginsTest {
    // Ground in 1 tick, brewed in 1, of 5 grams of beans and 10 of water.
    private static final int QUICK = Due.what(5, 1, 1, 0);
    private static final int QUICK_WET = Due.wet(10, 0);
    private static final int SLOWLY_GROUND = Due.what(5, 9, 1, 0);
    private static final int SLOWLY_BREWED = Due.what(5, 1, 30, 0);
    private static final int SLOWLY_STEAMED = Due.what(5, 1, 1, 20);

    public static void main(String[] args) {
        powerForSteam();
        powerForARinse();
        powerForABrew();
        powerForGrinding();
        oneWand();
        steamOfTheLeastNumber();
        steamOfOneThatIsBrewed();
        milkForSteam();
        rinseAtTen();
        rinseAtFive();
        rinseBelowTenWaits();
        whatHoldsUpARinse();
        rinseAtFault();
        waterForRinses();
        powerForRinses();
        brewWithDueBelowTen();
        waterForARinseAheadOfABrew();
        waterForABrew();
        brewOfTheLeastNumber();
        brewInTheLeastGroup();
        brewsOfOneTick();
        oneGrinder();
        grindingWhileFewerLie();
        grindingByLaneAndNumber();
        beansForGrinding();
        Due.end();
    }

    /** The recipes by the numbers 0 .. 3: quick, slowly ground, slowly brewed, slowly steamed. */
    private static CupByCup machine(int groups, int beans, int water, int milk) {
        CupByCup x = Due.stocked(groups, 30, beans, water, milk);
        x.recipe(QUICK, QUICK_WET);
        x.recipe(SLOWLY_GROUND, QUICK_WET);
        x.recipe(SLOWLY_BREWED, QUICK_WET);
        x.recipe(SLOWLY_STEAMED, QUICK_WET);
        return x;
    }

    private static CupByCup machine(int groups) {
        return machine(groups, 10000, 10000, 10000);
    }

    /** "each only if its POWER and that of all that goes on is not above the LIMIT": 4 + 3. */
    private static void powerForSteam() {
        for (int limit = 6; limit <= 8; limit++) {
            CupByCup x = machine(1);
            x.order(3, 1, 0);
            x.order(1, 1, 0);
            x.go(2);
            Due.is("one brews, one is ground", x.count(2), 6);
            x.limit(limit);
            x.go(1);
            Due.is("steams, limit " + limit, x.cup(0, 0), limit >= 7 ? 5 : 4);
            Due.is("power, limit " + limit, x.count(2), limit >= 7 ? 7 : 4);
            x.go(7);
            Due.is("while the other one is ground, limit " + limit, x.cup(0, 0),
                    limit >= 7 ? 5 : 4);
            x.go(1);
            Due.is("behind that, limit " + limit, x.cup(0, 0), 5);
        }
    }

    /** 4 for grinding, 3 for steam, 2 for the rinse. */
    private static void powerForARinse() {
        for (int limit = 8; limit <= 10; limit++) {
            CupByCup x = machine(1);
            x.order(0, 4, 0);
            x.order(3, 1, 0);
            x.order(1, 1, 0);
            x.go(6);
            Due.is("due", x.group(0, 2), 5);
            x.limit(limit);
            x.go(1);
            Due.is("steams", x.cup(4, 0), 5);
            Due.is("is ground", x.cup(5, 0), 1);
            Due.is("rinses, limit " + limit, x.group(0, 0), limit >= 9 ? 2 : 0);
            Due.is("power, limit " + limit, x.count(2), limit >= 9 ? 9 : 7);
        }
    }

    /** 2 for the other group, 4 for grinding, 2 for the brew; the fault ends in tick 3. */
    private static void powerForABrew() {
        for (int limit = 7; limit <= 9; limit++) {
            CupByCup x = machine(2);
            x.fault(1, 4);
            x.order(2, 1, 0);
            x.order(0, 1, 0);
            x.order(1, 1, 0);
            x.go(3);
            Due.is("one brews, one is ground", x.count(2), 6);
            Due.is("one lies", x.cup(1, 0), 2);
            x.limit(limit);
            x.go(1);
            Due.is("brews, limit " + limit, x.cup(1, 0), limit >= 8 ? 3 : 2);
            Due.is("power, limit " + limit, x.count(2), limit >= 8 ? 8 : 6);
        }
    }

    /** 3 for steam, 4 for grinding. */
    private static void powerForGrinding() {
        for (int limit = 6; limit <= 8; limit++) {
            CupByCup x = machine(1);
            x.order(3, 1, 0);
            x.go(3);
            Due.is("steams", x.count(2), 3);
            x.order(0, 1, 0);
            x.limit(limit);
            x.go(1);
            Due.is("is ground, limit " + limit, x.cup(1, 0), limit >= 7 ? 1 : 0);
            Due.is("power, limit " + limit, x.count(2), limit >= 7 ? 7 : 3);
        }
    }

    /** "if the WAND is free": it is in the tick in which the other cup is done, not ahead of it. */
    private static void oneWand() {
        CupByCup x = machine(2);
        x.recipe(Due.what(5, 1, 1, 3), QUICK_WET);
        x.order(4, 2, 0);
        x.go(4);
        Due.is("the first one steams", x.cup(0, 6), 2);
        Due.is("the second one is brewed", x.cup(1, 0), 4);
        x.go(1);
        Due.is("the second one is brewed yet", x.cup(1, 0), 4);
        x.go(1);
        Due.is("the first one is done", x.cup(0, 4), 5);
        Due.is("the second one steams", x.cup(1, 6), 3);
    }

    /** "the BREWED CUP of the least number", though it was brewed later. */
    private static void steamOfTheLeastNumber() {
        CupByCup x = machine(3);
        x.recipe(Due.what(5, 1, 5, 1), QUICK_WET);
        x.recipe(Due.what(5, 1, 1, 1), QUICK_WET);
        x.order(3, 1, 0);
        x.order(4, 1, 0);
        x.order(5, 1, 0);
        x.go(5);
        Due.is("the last one is brewed", x.cup(2, 0), 4);
        Due.is("the second one brews", x.cup(1, 0), 3);
        x.go(17);
        Due.is("the wand is taken till tick 22", x.cup(0, 6), 1);
        Due.is("the second one is brewed", x.cup(1, 0), 4);
        x.go(1);
        Due.is("the second one steams", x.cup(1, 0), 5);
        Due.is("the last one does not", x.cup(2, 0), 4);
    }

    /** A lesser number that still brews is not waited for. */
    private static void steamOfOneThatIsBrewed() {
        CupByCup x = machine(2);
        x.recipe(Due.what(5, 1, 30, 1), QUICK_WET);
        x.order(4, 1, 0);
        x.order(3, 1, 0);
        x.go(4);
        Due.is("the lesser number brews", x.cup(0, 0), 3);
        Due.is("the other one steams", x.cup(1, 0), 5);
    }

    /** "if there is its MILK (which goes)", of the least number and of no other one. */
    private static void milkForSteam() {
        for (int milk = 79; milk <= 81; milk++) {
            CupByCup x = machine(2, 1000, 1000, milk);
            x.recipe(Due.what(5, 1, 1, 20), Due.wet(10, 80));
            x.order(4, 1, 0);
            x.order(3, 1, 0);
            x.go(4);
            Due.is("steams, milk " + milk, x.cup(0, 0), milk >= 80 ? 5 : 4);
            Due.is("milk left of " + milk, x.count(8), milk >= 80 ? milk - 80 : milk);
            Due.is("another one that needs no milk", x.cup(1, 0), 4);
        }
        CupByCup none = machine(1, 1000, 1000, 0);
        none.order(3, 1, 0);
        none.go(3);
        Due.is("steams without milk, the store is empty", none.cup(0, 0), 5);
    }

    /** One group, so many quick cups: the last one of them brews its last tick. */
    private static CupByCup withDue(int due, int beans, int water) {
        CupByCup x = machine(1, beans, water, 0);
        for (int i = 0; i < due; i++) {
            x.order(0, 1, 0);
        }
        x.go(due + 1);
        Due.is("due", x.group(0, 2), due);
        Due.is("brews", x.group(0, 0), 1);
        return x;
    }

    /** "if DUE is 10 (CUPS since it was RINSED)", though cups wait and lie. */
    private static void rinseAtTen() {
        for (int due = 8; due <= 10; due++) {
            CupByCup x = machine(1);
            for (int i = 0; i < due + 3; i++) {
                x.order(0, 1, 0);
            }
            x.go(due + 1);
            Due.is("due", x.group(0, 2), due);
            Due.is("one is ground", x.cup(due, 0), 1);
            x.go(1);
            Due.is("rinses, due " + due, x.group(0, 0), due == 10 ? 2 : 1);
            Due.is("the one that was ground, due " + due, x.cup(due, 0), due == 10 ? 2 : 3);
            Due.is("due behind that", x.group(0, 2), due == 10 ? 10 : due + 1);
        }
    }

    /** "or 5 at least and no CUP WAITS or lies GROUND". */
    private static void rinseAtFive() {
        for (int due = 1; due <= 10; due++) {
            CupByCup x = withDue(due, 1000, 1000);
            int water = x.count(7);
            x.go(1);
            Due.is("rinses, due " + due, x.group(0, 0), due >= 5 ? 2 : 0);
            Due.is("ticks", x.group(0, 1), due >= 5 ? 6 : 0);
            Due.is("water that goes", water - x.count(7), due >= 5 ? 20 : 0);
            x.go(6);
            Due.is("due behind " + due, x.group(0, 2), due >= 5 ? 0 : due);
        }
    }

    /** A cup that waits for beans holds up the rinse of 5 to 9, not of 10. */
    private static void rinseBelowTenWaits() {
        for (int due = 5; due <= 10; due++) {
            CupByCup x = withDue(due, 5 * due, 1000);
            x.order(0, 1, 0);
            x.go(1);
            Due.is("one waits", x.cup(due, 0), 0);
            Due.is("rinses, due " + due, x.group(0, 0), due == 10 ? 2 : 0);
            x.go(20);
            Due.is("rinses done, due " + due, x.count(10), due == 10 ? 1 : 0);
            x.take(due);
            x.go(1);
            Due.is("rinses as none waits, due " + due, x.group(0, 0), due == 10 ? 0 : 2);
        }
    }

    /** How a cup is in tick 46, its grams of beans, water and milk, and its recipe. */
    private static void whatHoldsUpARinse() {
        int[][] cups = {
            {0, 0, 20, 0, QUICK, QUICK_WET},
            {1, 5, 20, 0, SLOWLY_GROUND, QUICK_WET},
            {2, 5, 20, 0, QUICK, Due.wet(250, 0)},
            {3, 5, 30, 0, SLOWLY_BREWED, QUICK_WET},
            {4, 5, 30, 0, SLOWLY_STEAMED, Due.wet(10, 1)},
            {5, 5, 30, 1, SLOWLY_STEAMED, Due.wet(10, 1)},
            {6, 5, 30, 0, QUICK, QUICK_WET},
            {7, 0, 20, 0, QUICK, QUICK_WET},
        };
        for (int[] cup : cups) {
            CupByCup x = machine(2, 25, 70, 0);
            x.fault(1, 7);
            x.order(0, 5, 0);
            x.go(7);
            Due.is("group 0 rinses, all water is gone", x.group(0, 0) + x.count(7), 2);
            x.fault(0, 40);
            x.go(33);
            for (int store = 0; store < 3; store++) {
                x.store(store, cup[1 + store]);
            }
            x.recipe(cup[4], cup[5]);
            x.order(4, 1, 0);
            if (cup[0] == 7) {
                x.take(5);
            }
            x.go(6);
            Due.is("how it is", x.cup(5, 0), cup[0]);
            Due.is("group 0 is at fault", x.group(0, 3), 1);
            x.go(1);
            Due.is("rinses while a cup is " + cup[0], x.group(0, 0),
                    cup[0] == 0 || cup[0] == 2 ? 0 : 2);
        }
    }

    /** "of GROUPS by numbers that are free and not at FAULT". */
    private static void rinseAtFault() {
        for (int ticks = 1; ticks <= 3; ticks++) {
            CupByCup x = withDue(6, 1000, 1000);
            x.fault(0, ticks);
            x.take(5);
            for (int tick = 1; tick <= 3; tick++) {
                x.go(1);
                Due.is("fault of " + ticks + ", tick " + tick, x.group(0, 0),
                        tick >= ticks ? 2 : 0);
            }
        }
    }

    /** Both groups have 5 due and are at fault till tick 15; no gram of water is left. */
    private static CupByCup twoGroupsDue() {
        CupByCup x = machine(2, 1000, 140, 0);
        x.recipe(Due.what(5, 1, 2, 0), QUICK_WET);
        x.order(4, 6, 0);
        x.order(4, 4, 0);
        x.go(13);
        for (int group = 0; group < 2; group++) {
            Due.is("due", x.group(group, 2), 5);
            Due.is("rinses", x.group(group, 0), 2);
            x.fault(group, 3);
        }
        Due.is("water", x.count(7), 0);
        return x;
    }

    /** "for 6 TICKS (20 grams of water go, if there are so many; else it doesn't begin)". */
    private static void waterForRinses() {
        for (int water : new int[] {1, 19, 20, 21, 39, 40, 41}) {
            CupByCup x = twoGroupsDue();
            x.store(1, water);
            x.go(3);
            Due.is("group 0, water " + water, x.group(0, 0), water >= 20 ? 2 : 0);
            Due.is("group 1, water " + water, x.group(1, 0), water >= 40 ? 2 : 0);
            Due.is("water left of " + water, x.count(7), water % 20);
            Due.is("ticks", x.group(0, 1), water >= 20 ? 6 : 0);
        }
    }

    /** 4 for grinding, 2 for each rinse: the lesser number has it first. */
    private static void powerForRinses() {
        for (int limit = 6; limit <= 8; limit++) {
            CupByCup x = twoGroupsDue();
            x.store(1, 100);
            x.order(1, 1, 0);
            x.go(2);
            Due.is("one is ground", x.count(2), 4);
            x.limit(limit);
            x.go(1);
            Due.is("group 0, limit " + limit, x.group(0, 0), 2);
            Due.is("group 1, limit " + limit, x.group(1, 0), limit >= 8 ? 2 : 0);
        }
    }

    /** "with DUE below 10": where 10 are due and no rinse begins, another group brews. */
    private static void brewWithDueBelowTen() {
        for (int ticks = 12; ticks <= 13; ticks++) {
            CupByCup x = machine(2, 1000, 119, 0);
            x.fault(1, ticks);
            x.order(0, 6, 0);
            x.order(0, 5, 0);
            x.go(11);
            Due.is("the tenth one brews", x.cup(9, 5), 0);
            Due.is("due", x.group(0, 2), 10);
            x.go(1);
            Due.is("group 0 is free", x.group(0, 0), 0);
            Due.is("due", x.group(0, 2), 10);
            Due.is("the next one, fault of " + ticks, x.cup(10, 0), ticks == 12 ? 3 : 2);
            Due.is("its group", x.cup(10, 5), ticks == 12 ? 1 : -1);
            Due.is("due of group 1", x.group(1, 2), ticks == 12 ? 1 : 0);
        }
    }

    /** Group 0 rinses with 20 grams; what is left is for the brew in group 1. */
    private static void waterForARinseAheadOfABrew() {
        for (int left = 29; left <= 31; left++) {
            CupByCup x = machine(2, 1000, 100 + left, 0);
            x.fault(1, 12);
            x.order(0, 6, 0);
            x.order(0, 5, 0);
            x.go(12);
            Due.is("group 0 rinses", x.group(0, 0), 2);
            Due.is("group 1 brews, water " + left, x.group(1, 0), left >= 30 ? 1 : 0);
            Due.is("water left", x.count(7), left >= 30 ? left - 30 : left - 20);
        }
    }

    /** "if there is its WATER (which goes; else no CUP is BREWED in this TICK any more)". */
    private static void waterForABrew() {
        for (int water : new int[] {49, 50, 51, 59, 60, 61}) {
            CupByCup x = machine(2, 1000, 0, 0);
            x.recipe(Due.what(5, 1, 30, 0), Due.wet(50, 0));
            x.order(4, 1, 0);
            x.order(0, 1, 0);
            x.go(4);
            Due.is("both lie", x.cup(0, 0) + x.cup(1, 0), 4);
            x.store(1, water);
            x.go(1);
            Due.is("the first one, water " + water, x.cup(0, 0), water >= 50 ? 3 : 2);
            Due.is("the other one, water " + water, x.cup(1, 0), water >= 60 ? 3 : 2);
            Due.is("water left of " + water, x.count(7),
                    water >= 60 ? water - 60 : water >= 50 ? water - 50 : water);
            Due.is("due of group 0", x.group(0, 2), water >= 50 ? 1 : 0);
            Due.is("due of group 1", x.group(1, 2), water >= 60 ? 1 : 0);
        }
    }

    /** "the CUP that lies GROUND of the least number", though it lies later. */
    private static void brewOfTheLeastNumber() {
        CupByCup x = machine(2);
        x.fault(0, 6);
        x.fault(1, 200);
        x.order(2, 1, 1);
        x.order(2, 1, 0);
        x.go(2);
        Due.is("the second one lies first", x.cup(1, 0), 2);
        x.go(3);
        Due.is("both lie", x.cup(0, 0) + x.cup(1, 0), 4);
        x.go(1);
        Due.is("the first one brews", x.cup(0, 0), 3);
        Due.is("the second one lies", x.cup(1, 0), 2);
    }

    /** "in the GROUP of the least number" of those that are free and not at fault. */
    private static void brewInTheLeastGroup() {
        for (int atFault = 0; atFault < 8; atFault++) {
            CupByCup x = machine(3);
            int due = -1;
            for (int group = 2; group >= 0; group--) {
                if ((atFault >> group & 1) == 1) {
                    x.fault(group, 50);
                } else {
                    due = group;
                }
            }
            x.order(2, 1, 0);
            x.go(2);
            Due.is("groups at fault " + atFault, x.cup(0, 5), due);
        }
        CupByCup x = machine(3);
        x.order(2, 3, 0);
        x.go(4);
        for (int cup = 0; cup < 3; cup++) {
            Due.is("a group that brews is not free, cup " + cup, x.cup(cup, 5), cup);
        }
    }

    /** "while there is a GROUP that is free": two cups begin in one tick, a third does not. */
    private static void brewsOfOneTick() {
        CupByCup x = machine(3);
        x.fault(0, 10);
        x.fault(1, 10);
        x.fault(2, 11);
        x.order(2, 4, 0);
        x.go(9);
        Due.is("one waits", x.count(5), 1);
        x.go(1);
        Due.is("the first one", x.cup(0, 5), 0);
        Due.is("the second one", x.cup(1, 5), 1);
        Due.is("the third one lies", x.cup(2, 0), 2);
        Due.is("as places are free, the last one is ground", x.cup(3, 0), 1);
        x.go(1);
        Due.is("the third one", x.cup(2, 5), 2);
    }

    /** "if the GRINDER is free": it is in the tick in which the other cup lies, not ahead of it. */
    private static void oneGrinder() {
        CupByCup x = machine(3);
        x.order(1, 2, 0);
        x.go(9);
        Due.is("the first one is ground", x.cup(0, 6), 1);
        Due.is("the second one waits", x.cup(1, 0), 0);
        x.go(1);
        Due.is("the first one brews", x.cup(0, 0), 3);
        Due.is("the second one is ground", x.cup(1, 6), 9);
    }

    /** "and fewer CUPS lie GROUND than there are GROUPS". */
    private static void grindingWhileFewerLie() {
        for (int groups = 1; groups <= 3; groups++) {
            CupByCup x = machine(groups);
            for (int group = 0; group < groups; group++) {
                x.fault(group, 20);
            }
            x.order(2, 5, 0);
            for (int tick = 1; tick <= groups; tick++) {
                x.go(1);
                Due.is("ground as " + (tick - 1) + " lie, groups " + groups, x.cup(tick - 1, 0), 1);
            }
            x.go(1);
            Due.is("not as " + groups + " lie", x.cup(groups, 0), 0);
            x.go(3);
            Due.is("not later", x.cup(groups, 0), 0);
            x.take(0);
            x.go(1);
            Due.is("as one of them is taken back", x.cup(groups, 0), 1);
            x.go(10);
            Due.is("not one more", x.cup(groups + 1, 0), 0);
            Due.goTo(x, 19);
            Due.is("not as long as all are at fault", x.cup(groups + 1, 0), 0);
            x.go(1);
            Due.is("in the tick in which one brews", x.cup(groups + 1, 0), 1);
        }
    }

    /** "of CUPS that WAIT the one of the lesser LANE, of these the least number". */
    private static void grindingByLaneAndNumber() {
        CupByCup x = machine(1);
        x.order(1, 1, 1);
        x.order(1, 1, 1);
        x.order(1, 1, 0);
        x.order(1, 1, 0);
        int[] due = {2, 3, 0, 1};
        for (int i = 0; i < 4; i++) {
            x.go(1);
            for (int cup = 0; cup < 4; cup++) {
                Due.is("cup " + cup + " at " + i, x.cup(cup, 0) == 1 ? 1 : 0, cup == due[i] ? 1 : 0);
            }
            x.go(8);
        }
    }

    /** "if there are its BEANS (which go)", of that cup and of no other one. */
    private static void beansForGrinding() {
        for (int beans = 11; beans <= 13; beans++) {
            CupByCup x = machine(1, beans, 1000, 0);
            x.recipe(Due.what(12, 9, 1, 0), QUICK_WET);
            x.order(4, 1, 0);
            x.order(0, 1, 0);
            x.order(0, 1, 1);
            x.go(1);
            Due.is("ground, beans " + beans, x.cup(0, 0), beans >= 12 ? 1 : 0);
            Due.is("beans left of " + beans, x.count(6), beans >= 12 ? beans - 12 : beans);
            Due.is("one of few beans", x.cup(1, 0), 0);
            Due.is("one of another lane", x.cup(2, 0), 0);
        }
    }
}
