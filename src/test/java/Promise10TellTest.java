public final class Promise10TellTest {
    public static void main(String[] args) {
        stepsAreCutTowardsNothing();
        stepsAreSixAtMost();
        theSettingHasEnds();
        othersAreRefused();
        Due.end();
    }

    private static void stepsAreCutTowardsNothing() {
        int[] difference = {-24, -23, -8, -7, -5, -4, -3, -1, 0, 1, 3, 4, 5, 7, 8, 23, 24};
        int[] due = {44, 45, 48, 49, 49, 49, 50, 50, 50, 50, 50, 51, 51, 51, 52, 55, 56};
        for (int i = 0; i < difference.length; i++) {
            CupByCup x = new CupByCup(1, 30);
            Due.is("told 500 more by " + difference[i], x.tell(500 + difference[i], 500), due[i]);
            Due.is("the setting", x.count(11), due[i]);
        }
    }

    private static void stepsAreSixAtMost() {
        int[] difference = {-500, -29, -28, -27, 27, 28, 29, 500};
        for (int d : difference) {
            CupByCup x = new CupByCup(1, 30);
            Due.is("told 500 more by " + d, x.tell(500 + d, 500), d > 0 ? 56 : 44);
        }
        CupByCup x = new CupByCup(1, 30);
        Due.is("tell(1000, 0)", x.tell(1000, 0), 56);
        Due.is("tell(0, 1000)", x.tell(0, 1000), 50);
    }

    private static void theSettingHasEnds() {
        CupByCup x = new CupByCup(1, 30);
        for (int i = 1; i <= 8; i++) {
            Due.is("up", x.tell(600, 100), 50 + 6 * i);
        }
        Due.is("2 of 3 steps", x.tell(112, 100), 100);
        Due.is("at the end", x.tell(600, 100), 100);
        Due.is("down from the end", x.tell(100, 104), 99);
        for (int i = 1; i <= 16; i++) {
            Due.is("down", x.tell(100, 600), 99 - 6 * i);
        }
        Due.is("3 of 6 steps", x.tell(100, 600), 0);
        Due.is("at the other end", x.tell(0, 4), 0);
        Due.is("up from there", x.tell(4, 0), 1);
    }

    private static void othersAreRefused() {
        CupByCup x = new CupByCup(1, 30);
        int[][] wrong = {
            {-1, 500}, {1001, 500}, {500, -1}, {500, 1001}, {1001, 1001}, {-1, -1},
            {Integer.MIN_VALUE, 0}, {Integer.MAX_VALUE, 0},
            {0, Integer.MIN_VALUE}, {0, Integer.MAX_VALUE},
        };
        for (int[] pair : wrong) {
            Due.is("tell(" + pair[0] + ", " + pair[1] + ")", x.tell(pair[0], pair[1]), -1);
        }
        Due.is("the setting", x.count(11), 50);
    }
}
