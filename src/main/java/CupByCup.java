/** A keeper of a coffee machine, tick by tick; ../shared/DOC.md says what it promises. */
public final class CupByCup {
    public static final int NONE = -1;

    private static final int LAST_TICK = 20000;
    private static final int MOST_TICKS_AT_ONCE = 500;

    private static final int MOST_GROUPS = 3;
    private static final int LEAST_LIMIT = 6;
    private static final int MOST_LIMIT = 30;
    private static final int MOST_RECIPES = 8;
    private static final int MOST_CUPS = 100;
    private static final int MOST_CUPS_OF_ORDER = 6;
    private static final int LANES = 2;
    private static final int MOST_FAULT_TICKS = 200;

    private static final int BEANS = 0;
    private static final int WATER = 1;
    private static final int MILK = 2;
    private static final int STORES = 3;
    private static final int MOST_GRAMS_AT_ONCE = 10000;
    private static final int MOST_GRAMS_IN_STORE = 100000;

    // How a cup is: the numbers are those that cup(.., 0) answers.
    private static final int WAITS = 0;
    private static final int IS_GROUND_NOW = 1;
    private static final int LIES_GROUND = 2;
    private static final int BREWS = 3;
    private static final int IS_BREWED = 4;
    private static final int STEAMS = 5;
    private static final int IS_DONE = 6;
    private static final int WAS_TAKEN_BACK = 7;
    private static final int CUP_STATES = 8;
    private static final int MOST_TICKS_LYING = 30;

    private static final int GRIND_POWER = 4;
    private static final int GROUP_POWER = 2;
    private static final int STEAM_POWER = 3;

    private static final int RINSE_MUST = 10;
    private static final int RINSE_MAY = 5;
    private static final int RINSE_TICKS = 6;
    private static final int RINSE_WATER = 20;

    private static final int FIRST_HEAT = 900;
    private static final int HOT = 880;
    private static final int WARM_ENOUGH = 950;
    private static final int HEATING = 14;
    private static final int HEATING_POWER = 6;
    private static final int BREW_COOLING = 5;
    private static final int STEAM_COOLING = 8;

    private static final int FIRST_SETTING = 50;
    private static final int MOST_SETTING = 100;
    private static final int MOST_STEP = 6;
    private static final int TENTHS_OF_STEP = 4;
    private static final int MOST_TENTHS = 1000;

    private static final int MOST_PLANNED = 5;
    private static final int MOST_PLANS = 120;

    private final Group[] groups;
    private final Recipe[] recipes = new Recipe[MOST_RECIPES];
    private int recipeCount = 0;
    private final Cup[] cups = new Cup[MOST_CUPS];
    private int cupCount = 0;
    // How many cups are in each state: a tick looks for a cup only where there is one.
    private final int[] cupsThat = new int[CUP_STATES];
    private final int[] stores = new int[STORES];
    private final Planner planner;

    private Cup inGrinder = null;
    private Cup atWand = null;
    private int powerLimit;
    private int heat = FIRST_HEAT;
    private int now = 0;
    private int setting = FIRST_SETTING;
    private int beansSpoilt = 0;
    private int rinsesDone = 0;
    private int longest = 0;

    public CupByCup(int groups, int limit) {
        int n = within(groups, 1, MOST_GROUPS);
        this.groups = new Group[n];
        for (int i = 0; i < n; i++) {
            this.groups[i] = new Group(i);
        }
        this.planner = new Planner(n);
        this.powerLimit = within(limit, LEAST_LIMIT, MOST_LIMIT);
    }

    public int recipe(int what, int wet) {
        if (recipeCount >= MOST_RECIPES) {
            return NONE;
        }
        Recipe read = readRecipe(what, wet);
        if (read == null) {
            return NONE;
        }
        recipes[recipeCount] = read;
        recipeCount++;
        return recipeCount - 1;
    }

    public boolean alter(int recipe, int what, int wet) {
        if (!isAmong(recipe, recipeCount)) {
            return false;
        }
        Recipe read = readRecipe(what, wet);
        if (read == null) {
            return false;
        }
        recipes[recipe] = read;
        return true;
    }

    public int store(int which, int n) {
        if (!isAmong(which, STORES) || n < 1 || n > MOST_GRAMS_AT_ONCE) {
            return NONE;
        }
        if (n > MOST_GRAMS_IN_STORE - stores[which]) {
            return NONE;
        }
        stores[which] += n;
        return stores[which];
    }

    public int order(int recipe, int n, int lane) {
        if (!isAmong(recipe, recipeCount) || !isAmong(lane, LANES)) {
            return NONE;
        }
        if (n < 1 || n > MOST_CUPS_OF_ORDER || n > MOST_CUPS - cupCount) {
            return NONE;
        }
        int first = cupCount;
        for (int i = 0; i < n; i++) {
            cups[first + i] = new Cup(first + i, recipes[recipe], first, lane, now);
        }
        cupCount += n;
        cupsThat[WAITS] += n;
        return first;
    }

    public boolean take(int cup) {
        if (!isAmong(cup, cupCount)) {
            return false;
        }
        Cup taken = cups[cup];
        if (taken.state != WAITS && taken.state != LIES_GROUND) {
            return false;
        }
        if (taken.state == LIES_GROUND) {
            beansSpoilt += taken.recipe.beans;
        }
        turn(taken, WAS_TAKEN_BACK);
        return true;
    }

    public int go(int n) {
        if (n < 0 || n > MOST_TICKS_AT_ONCE) {
            return NONE;
        }
        for (int i = 0; i < n && now < LAST_TICK; i++) {
            goOneTick();
        }
        return now;
    }

    public boolean fault(int group, int n) {
        if (!isAmong(group, groups.length) || n < 1 || n > MOST_FAULT_TICKS) {
            return false;
        }
        Group hit = groups[group];
        if (hit.brewing != null) {
            waitAgain(hit.brewing);
        }
        hit.becomeFree();
        hit.faultLeft = n;
        return true;
    }

    public boolean limit(int limit) {
        if (limit < LEAST_LIMIT || limit > MOST_LIMIT) {
            return false;
        }
        powerLimit = limit;
        return true;
    }

    public int tell(int told, int wished) {
        if (told < 0 || told > MOST_TENTHS || wished < 0 || wished > MOST_TENTHS) {
            return NONE;
        }
        int step = within((told - wished) / TENTHS_OF_STEP, -MOST_STEP, MOST_STEP);
        setting = within(setting + step, 0, MOST_SETTING);
        return setting;
    }

    public int cup(int cup, int what) {
        if (!isAmong(cup, cupCount)) {
            return NONE;
        }
        Cup asked = cups[cup];
        switch (what) {
            case 0: return asked.state;
            case 1: return asked.firstOfOrder;
            case 2: return asked.lane;
            case 3: return asked.cameAt;
            case 4: return asked.doneAt;
            case 5: return asked.brewsIn == null ? NONE : asked.brewsIn.number;
            case 6: return ticksToGo(asked);
            case 7: return asked.timesLost;
            default: return NONE;
        }
    }

    public int group(int group, int what) {
        if (!isAmong(group, groups.length)) {
            return NONE;
        }
        Group asked = groups[group];
        switch (what) {
            case 0: return asked.state;
            case 1: return asked.toGo;
            case 2: return asked.due;
            case 3: return asked.faultLeft;
            default: return NONE;
        }
    }

    public int best(int k) {
        if (!isAmong(k, cupsThat[WAITS]) || !planWaiting()) {
            return NONE;
        }
        return planner.bestAt(k);
    }

    public int sum() {
        return planWaiting() ? planner.bestSum : NONE;
    }

    public int count(int what) {
        switch (what) {
            case 0: return now;
            case 1: return heat;
            case 2: return powerThatGoes();
            case 3: return cupCount;
            case 4: return cupsThat[IS_DONE];
            case 5: return cupsThat[WAITS];
            case 6: return stores[BEANS];
            case 7: return stores[WATER];
            case 8: return stores[MILK];
            case 9: return beansSpoilt;
            case 10: return rinsesDone;
            case 11: return setting;
            case 12: return longest;
            default: return NONE;
        }
    }

    private static int within(int n, int least, int most) {
        return Math.max(least, Math.min(n, most));
    }

    private static boolean isAmong(int number, int size) {
        return number >= 0 && number < size;
    }

    /** The recipe that the two numbers tell; null if it can't be. */
    private static Recipe readRecipe(int what, int wet) {
        if (what < 0 || wet < 0 || what % 10 != 0) {
            return null;
        }
        Recipe read = new Recipe(what / 1000000, what / 100000 % 10, what / 1000 % 100,
                what / 10 % 100, wet / 1000, wet % 1000);
        return read.canBe() ? read : null;
    }

    private void goOneTick() {
        endGrinding();
        endSteaming();
        for (Group group : groups) {
            passTickOf(group);
        }
        throwAwayOldGrounds();
        beginSteam();
        beginRinses();
        beginBrews();
        beginGrind();
        changeHeat();
        now++;
    }

    private void endGrinding() {
        Cup cup = inGrinder;
        if (cup == null) {
            return;
        }
        cup.toGo--;
        if (cup.toGo <= 0) {
            inGrinder = null;
            cup.liesSince = now;
            turn(cup, LIES_GROUND);
        }
    }

    private void endSteaming() {
        Cup cup = atWand;
        if (cup == null) {
            return;
        }
        cup.toGo--;
        if (cup.toGo <= 0) {
            atWand = null;
            finish(cup);
        }
    }

    private void passTickOf(Group group) {
        if (group.faultLeft > 0) {
            group.faultLeft--;
        }
        if (group.state == Group.FREE) {
            return;
        }
        group.toGo--;
        if (group.toGo > 0) {
            return;
        }
        if (group.state == Group.RINSING) {
            group.due = 0;
            rinsesDone++;
        }
        Cup cup = group.brewing;
        group.becomeFree();
        if (cup != null) {
            endBrewing(cup);
        }
    }

    private void endBrewing(Cup cup) {
        if (cup.recipe.steam == 0) {
            finish(cup);
        } else {
            turn(cup, IS_BREWED);
        }
    }

    private void throwAwayOldGrounds() {
        if (cupsThat[LIES_GROUND] == 0) {
            return;
        }
        for (int i = 0; i < cupCount; i++) {
            Cup cup = cups[i];
            if (cup.state == LIES_GROUND && now - cup.liesSince >= MOST_TICKS_LYING) {
                waitAgain(cup);
            }
        }
    }

    private void beginSteam() {
        if (atWand != null || !isPowerFor(STEAM_POWER)) {
            return;
        }
        Cup cup = firstThat(IS_BREWED);
        if (cup == null || cup.recipe.milk > stores[MILK]) {
            return;
        }
        stores[MILK] -= cup.recipe.milk;
        cup.toGo = cup.recipe.steam;
        atWand = cup;
        turn(cup, STEAMS);
    }

    private void beginRinses() {
        for (Group group : groups) {
            if (group.canBegin() && isRinseDue(group)
                    && stores[WATER] >= RINSE_WATER && isPowerFor(GROUP_POWER)) {
                stores[WATER] -= RINSE_WATER;
                group.begin(Group.RINSING, RINSE_TICKS);
            }
        }
    }

    private boolean isRinseDue(Group group) {
        if (group.due >= RINSE_MUST) {
            return true;
        }
        return group.due >= RINSE_MAY && cupsThat[WAITS] == 0 && cupsThat[LIES_GROUND] == 0;
    }

    private void beginBrews() {
        if (heat < HOT) {
            return;
        }
        for (Group group : groups) {
            if (!group.canBegin() || group.due >= RINSE_MUST) {
                continue;
            }
            Cup cup = firstThat(LIES_GROUND);
            // Without its water no cup of a higher number is brewed in its place.
            if (cup == null || cup.recipe.water > stores[WATER] || !isPowerFor(GROUP_POWER)) {
                return;
            }
            stores[WATER] -= cup.recipe.water;
            group.begin(Group.BREWING, cup.recipe.brew);
            group.brewing = cup;
            group.due++;
            turn(cup, BREWS);
            cup.brewsIn = group;
        }
    }

    private void beginGrind() {
        if (inGrinder != null || cupsThat[LIES_GROUND] >= groups.length
                || !isPowerFor(GRIND_POWER)) {
            return;
        }
        Cup cup = nextToGrind();
        if (cup == null || cup.recipe.beans > stores[BEANS]) {
            return;
        }
        stores[BEANS] -= cup.recipe.beans;
        cup.toGo = cup.recipe.grind;
        inGrinder = cup;
        turn(cup, IS_GROUND_NOW);
    }

    private void changeHeat() {
        heat--;
        for (Group group : groups) {
            if (group.state == Group.BREWING) {
                heat -= BREW_COOLING;
            }
        }
        if (atWand != null) {
            heat -= STEAM_COOLING;
        }
        if (heat < WARM_ENOUGH && isPowerFor(HEATING_POWER)) {
            heat += HEATING;
        }
    }

    private Cup firstThat(int state) {
        if (cupsThat[state] == 0) {
            return null;
        }
        for (int i = 0; i < cupCount; i++) {
            if (cups[i].state == state) {
                return cups[i];
            }
        }
        return null;
    }

    private Cup nextToGrind() {
        if (cupsThat[WAITS] == 0) {
            return null;
        }
        Cup next = null;
        for (int i = 0; i < cupCount; i++) {
            Cup cup = cups[i];
            if (cup.state == WAITS && (next == null || cup.lane < next.lane)) {
                next = cup;
            }
        }
        return next;
    }

    private int powerThatGoes() {
        int power = 0;
        if (inGrinder != null) {
            power += GRIND_POWER;
        }
        if (atWand != null) {
            power += STEAM_POWER;
        }
        for (Group group : groups) {
            if (group.state != Group.FREE) {
                power += GROUP_POWER;
            }
        }
        return power;
    }

    private boolean isPowerFor(int more) {
        return powerThatGoes() + more <= powerLimit;
    }

    /** Every change of a cup's state goes through here, so that cupsThat stays right. */
    private void turn(Cup cup, int state) {
        cupsThat[cup.state]--;
        cup.state = state;
        cup.brewsIn = null;
        cupsThat[state]++;
    }

    private void finish(Cup cup) {
        turn(cup, IS_DONE);
        cup.doneAt = now;
        longest = Math.max(longest, now - cup.cameAt);
    }

    private void waitAgain(Cup cup) {
        beansSpoilt += cup.recipe.beans;
        cup.timesLost++;
        turn(cup, WAITS);
    }

    private int ticksToGo(Cup cup) {
        if (cup.brewsIn != null) {
            return cup.brewsIn.toGo;
        }
        return cup.state == IS_GROUND_NOW || cup.state == STEAMS ? cup.toGo : NONE;
    }

    /** False if no cup waits, or too many. */
    private boolean planWaiting() {
        if (cupsThat[WAITS] < 1 || cupsThat[WAITS] > MOST_PLANNED) {
            return false;
        }
        planner.clear();
        for (int i = 0; i < cupCount; i++) {
            if (cups[i].state == WAITS) {
                planner.add(cups[i]);
            }
        }
        planner.findBest();
        return true;
    }

    /** It never changes: a cup keeps the recipe with which it came, whatever alter does later. */
    private static final class Recipe {
        final int beans;
        final int grind;
        final int brew;
        final int steam;
        final int water;
        final int milk;

        Recipe(int beans, int grind, int brew, int steam, int water, int milk) {
            this.beans = beans;
            this.grind = grind;
            this.brew = brew;
            this.steam = steam;
            this.water = water;
            this.milk = milk;
        }

        boolean canBe() {
            return isIn(beans, 5, 30) && isIn(grind, 1, 9) && isIn(brew, 1, 30)
                    && isIn(steam, 0, 20) && isIn(water, 10, 250) && isIn(milk, 0, 250)
                    && (steam > 0 || milk == 0);
        }

        private static boolean isIn(int n, int least, int most) {
            return n >= least && n <= most;
        }
    }

    private static final class Cup {
        final int number;
        final Recipe recipe;
        final int firstOfOrder;
        final int lane;
        final int cameAt;
        int state = WAITS;
        int doneAt = NONE;
        // Of grinding and steaming; of brewing its group has it.
        int toGo = 0;
        int liesSince = 0;
        int timesLost = 0;
        Group brewsIn = null;

        Cup(int number, Recipe recipe, int firstOfOrder, int lane, int cameAt) {
            this.number = number;
            this.recipe = recipe;
            this.firstOfOrder = firstOfOrder;
            this.lane = lane;
            this.cameAt = cameAt;
        }
    }

    private static final class Group {
        // The numbers are those that group(.., 0) answers.
        static final int FREE = 0;
        static final int BREWING = 1;
        static final int RINSING = 2;

        final int number;
        int state = FREE;
        int toGo = 0;
        int due = 0;
        int faultLeft = 0;
        Cup brewing = null;

        Group(int number) {
            this.number = number;
        }

        boolean canBegin() {
            return state == FREE && faultLeft == 0;
        }

        void begin(int newState, int ticks) {
            state = newState;
            toGo = ticks;
        }

        void becomeFree() {
            state = FREE;
            toGo = 0;
            brewing = null;
        }
    }

    /** Tries every order of the few cups that wait; its rows are made once and used again. */
    private static final class Planner {
        private final Cup[] order = new Cup[MOST_PLANNED];
        private final int[] best = new int[MOST_PLANNED];
        private final int[] brewedAt = new int[MOST_PLANNED];
        private final boolean[] needsSteam = new boolean[MOST_PLANNED];
        private final int[] groupFreeAt;
        private int size = 0;
        int bestSum = 0;

        Planner(int groups) {
            this.groupFreeAt = new int[groups];
        }

        void clear() {
            size = 0;
        }

        void add(Cup cup) {
            if (size < MOST_PLANNED) {
                order[size] = cup;
                size++;
            }
        }

        /** The cups were added by their numbers, so the orders come by numbers too. */
        void findBest() {
            bestSum = sumOfOrder();
            keepOrder();
            for (int i = 1; i < MOST_PLANS && nextOrder(); i++) {
                int newSum = sumOfOrder();
                if (newSum < bestSum) {
                    bestSum = newSum;
                    keepOrder();
                }
            }
        }

        int bestAt(int k) {
            return isAmong(k, size) ? best[k] : NONE;
        }

        private void keepOrder() {
            for (int i = 0; i < size; i++) {
                best[i] = order[i].number;
            }
        }

        /** False if the order was the last one by numbers. */
        private boolean nextOrder() {
            int at = size - 2;
            while (at >= 0 && order[at].number > order[at + 1].number) {
                at--;
            }
            if (at < 0) {
                return false;
            }
            int other = size - 1;
            while (other > at + 1 && order[other].number < order[at].number) {
                other--;
            }
            swap(at, other);
            for (int low = at + 1, high = size - 1; low < high; low++, high--) {
                swap(low, high);
            }
            return true;
        }

        private void swap(int a, int b) {
            Cup kept = order[a];
            order[a] = order[b];
            order[b] = kept;
        }

        private int sumOfOrder() {
            for (int i = 0; i < groupFreeAt.length; i++) {
                groupFreeAt[i] = 0;
            }
            int groundAt = 0;
            int total = 0;
            for (int i = 0; i < size; i++) {
                Recipe recipe = order[i].recipe;
                groundAt += recipe.grind;
                int group = groupFreeFirst();
                brewedAt[i] = Math.max(groundAt, groupFreeAt[group]) + recipe.brew;
                groupFreeAt[group] = brewedAt[i];
                needsSteam[i] = recipe.steam > 0;
                if (!needsSteam[i]) {
                    total += brewedAt[i];
                }
            }
            return total + sumOfSteamed();
        }

        private int groupFreeFirst() {
            int first = 0;
            for (int i = 1; i < groupFreeAt.length; i++) {
                if (groupFreeAt[i] < groupFreeAt[first]) {
                    first = i;
                }
            }
            return first;
        }

        private int sumOfSteamed() {
            int wandFreeAt = 0;
            int total = 0;
            for (int steamed = 0; steamed < size; steamed++) {
                int next = nextToSteam();
                if (next < 0) {
                    break;
                }
                needsSteam[next] = false;
                wandFreeAt = Math.max(wandFreeAt, brewedAt[next]) + order[next].recipe.steam;
                total += wandFreeAt;
            }
            return total;
        }

        private int nextToSteam() {
            int next = NONE;
            for (int i = 0; i < size; i++) {
                if (needsSteam[i] && (next == NONE || brewedAt[i] < brewedAt[next])) {
                    next = i;
                }
            }
            return next;
        }
    }
}
