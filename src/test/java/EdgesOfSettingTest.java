/** The setting of the grinder: the part "==== 3." of the document and promise 10, at their edges. */
public final class EdgesOfSettingTest {
    public static void main(String[] args) {
        itIsFiftyAtFirst();
        stepsOfAllDifferences();
        stepsAreToldLessWished();
        stepsNearTheUpperEnd();
        stepsNearTheLowerEnd();
        toldAndWishedAreNothingTo1000();
        whatIsRefusedIsNoStep();
        Due.end();
    }

    private static CupByCup with(int setting) {
        CupByCup x = new CupByCup(1, 30);
        for (int i = 0; i < 60 && x.count(11) != setting; i++) {
            x.tell(500 + 4 * Math.max(-6, Math.min(6, setting - x.count(11))), 500);
        }
        Due.is("setting", x.count(11), setting);
        return x;
    }

    private static void itIsFiftyAtFirst() {
        CupByCup x = new CupByCup(1, 30);
        Due.is("at first", x.count(11), 50);
        Due.is("tell(0, 0)", x.tell(0, 0), 50);
    }

    /** "the STEP is their difference .. by 4, cut towards 0; it isn't above 6, or below -6". */
    private static void stepsOfAllDifferences() {
        for (int step = 0; step <= 6; step++) {
            for (int more = 0; more < 4; more++) {
                int difference = 4 * step + more;
                CupByCup up = new CupByCup(1, 30);
                Due.is("told more by " + difference, up.tell(500 + difference, 500), 50 + step);
                Due.is("count(11)", up.count(11), 50 + step);
                CupByCup down = new CupByCup(1, 30);
                Due.is("told less by " + difference, down.tell(500 - difference, 500), 50 - step);
                Due.is("count(11)", down.count(11), 50 - step);
            }
        }
        for (int difference : new int[] {28, 29, 100, 499, 500}) {
            Due.is("told more by " + difference, with(50).tell(500 + difference, 500), 56);
            Due.is("told less by " + difference, with(50).tell(500 - difference, 500), 44);
        }
    }

    private static void stepsAreToldLessWished() {
        for (int wished : new int[] {0, 1, 499, 996}) {
            Due.is("told 4 more than " + wished, with(50).tell(wished + 4, wished), 51);
            Due.is("wished 4 more than " + wished, with(50).tell(wished, wished + 4), 49);
            Due.is("told 3 more than " + wished, with(50).tell(wished + 3, wished), 50);
            Due.is("wished 3 more than " + wished, with(50).tell(wished, wished + 3), 50);
        }
    }

    /** "the SETTING is that much more (0 .. 100)". */
    private static void stepsNearTheUpperEnd() {
        for (int setting = 93; setting <= 100; setting++) {
            for (int step = 0; step <= 6; step++) {
                CupByCup x = with(setting);
                int due = Math.min(100, setting + step);
                Due.is(setting + " and " + step, x.tell(4 * step, 0), due);
                Due.is("1 less than " + due, x.tell(0, 4), due - 1);
            }
        }
    }

    private static void stepsNearTheLowerEnd() {
        for (int setting = 0; setting <= 7; setting++) {
            for (int step = 0; step <= 6; step++) {
                CupByCup x = with(setting);
                int due = Math.max(0, setting - step);
                Due.is(setting + " less " + step, x.tell(0, 4 * step), due);
                Due.is("1 more than " + due, x.tell(4, 0), due + 1);
            }
        }
    }

    /** "NONE if told or wished isn't 0 .. 1000". */
    private static void toldAndWishedAreNothingTo1000() {
        int[] in = {0, 1, 999, 1000};
        int[] out = {-1, -2, 1001, 1002, Integer.MIN_VALUE, Integer.MAX_VALUE, 65536 + 500};
        for (int a : in) {
            for (int b : in) {
                int step = Math.max(-6, Math.min(6, (a - b) / 4));
                Due.is("tell(" + a + ", " + b + ")", with(50).tell(a, b), 50 + step);
            }
            for (int b : out) {
                Due.is("tell(" + a + ", " + b + ")", with(50).tell(a, b), -1);
                Due.is("tell(" + b + ", " + a + ")", with(50).tell(b, a), -1);
            }
        }
        for (int a : out) {
            for (int b : out) {
                Due.is("tell(" + a + ", " + b + ")", with(50).tell(a, b), -1);
            }
        }
    }

    private static void whatIsRefusedIsNoStep() {
        for (int setting : new int[] {0, 50, 100}) {
            CupByCup x = with(setting);
            x.tell(1001, 0);
            x.tell(0, 1001);
            x.tell(-1, 1000);
            x.tell(1000, -1);
            x.tell(Integer.MIN_VALUE, Integer.MAX_VALUE);
            x.tell(Integer.MAX_VALUE, Integer.MIN_VALUE);
            Due.is("setting", x.count(11), setting);
        }
    }
}
