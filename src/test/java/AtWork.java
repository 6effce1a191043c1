import java.util.function.Consumer;

/**
 * Two machines at work, on which calls are tried that may change nothing: one with room for
 * more of all, and one that is full. Cups lie ground till they are thrown away, faults spoil
 * others, groups are rinsed, power is scarce, and what comes later tells of a hidden change.
 */
enum AtWork {
    ROOMY, FULL;

    private static final int LAST_TICK = 150;

    /** The calls are made ahead of each tick in turn: nothing is otherwise then, or later. */
    void changesNothing(String name, Consumer<CupByCup> calls) {
        Seen last = new Seen(() -> at(LAST_TICK));
        for (int i = 0; i < LAST_TICK; i++) {
            int tick = i;
            String when = this + ", " + name + " ahead of tick " + tick;
            Seen.same(when + ", at once", () -> called(tick, calls, tick), () -> at(tick));
            Seen.same(when + ", later", new Seen(() -> called(tick, calls, LAST_TICK)), last);
        }
    }

    CupByCup at(int tick) {
        CupByCup x = this == ROOMY ? roomy() : full();
        goOn(x, 0, tick);
        return x;
    }

    private CupByCup called(int tick, Consumer<CupByCup> calls, int last) {
        CupByCup x = at(tick);
        calls.accept(x);
        goOn(x, tick, last);
        return x;
    }

    private void goOn(CupByCup x, int from, int to) {
        for (int tick = from; tick < to; tick++) {
            if (this == ROOMY) {
                comesToRoomy(x, tick);
            } else {
                comesToFull(x, tick);
            }
            x.go(1);
        }
    }

    /** Without water at first. */
    private static CupByCup roomy() {
        CupByCup x = Due.stocked(2, 12, 300, 0, 500);
        x.recipe(Due.PLAIN, Due.PLAIN_WET);
        x.recipe(Due.MILKY, Due.MILKY_WET);
        x.recipe(Due.what(5, 1, 2, 0), Due.wet(10, 0));
        x.order(0, 2, 0);
        x.order(1, 2, 0);
        x.order(2, 6, 1);
        return x;
    }

    private static void comesToRoomy(CupByCup x, int tick) {
        switch (tick) {
            case 3: x.tell(511, 500); break;
            case 20: x.order(2, 6, 1); break;
            case 36: x.store(1, 1500); break;
            case 39: x.fault(1, 4); break;
            case 40: x.recipe(Due.what(7, 2, 2, 2), Due.wet(20, 20)); break;
            case 41: x.order(3, 3, 0); break;
            case 50: x.alter(0, Due.what(6, 1, 1, 1), Due.wet(30, 30)); break;
            case 51: x.order(0, 5, 0); break;
            case 70: x.limit(9); break;
            case 80: x.store(0, 100); break;
            case 90: x.take(9); break;
            case 91: x.order(1, 6, 1); break;
            default: break;
        }
    }

    /** 8 recipes, 100000 grams in each store, 95 cups; both groups are at fault at first. */
    private static CupByCup full() {
        CupByCup x = new CupByCup(2, 9);
        for (int i = 0; i < 8; i++) {
            x.recipe(Due.what(5 + i, 1, 1 + i, i % 3), Due.wet(10, i % 3));
        }
        for (int i = 0; i < 30; i++) {
            x.store(i % 3, 10000);
        }
        for (int i = 0; i < 19; i++) {
            x.order(i % 8, 5, i == 0 ? 0 : 1);
        }
        return x;
    }

    private static void comesToFull(CupByCup x, int tick) {
        switch (tick) {
            case 0: x.fault(0, 36); break;
            case 1: x.fault(1, 40); break;
            case 3: x.tell(489, 500); break;
            case 60: x.order(7, 1, 0); break;
            case 70: x.alter(3, Due.MILKY, Due.MILKY_WET); break;
            case 80: x.order(3, 2, 0); break;
            case 90: x.fault(1, 5); break;
            case 100: x.order(0, 2, 0); break;
            case 120: x.limit(14); break;
            default: break;
        }
    }
}
