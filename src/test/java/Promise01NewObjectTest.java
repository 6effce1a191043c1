public final class Promise01NewObjectTest {
    public static void main(String[] args) {
        groupsCountAsTheNearest();
        limitCountsAsTheNearest();
        allIsAtItsBeginning();
        Due.end();
    }

    private static void groupsCountAsTheNearest() {
        int[] asked = {Integer.MIN_VALUE, -1, 0, 1, 2, 3, 4, Integer.MAX_VALUE};
        int[] due = {1, 1, 1, 1, 2, 3, 3, 3};
        for (int i = 0; i < asked.length; i++) {
            CupByCup x = new CupByCup(asked[i], 30);
            Due.is("last group of " + asked[i], x.group(due[i] - 1, 0), 0);
            Due.is("group behind the last of " + asked[i], x.group(due[i], 0), -1);
        }
    }

    private static void limitCountsAsTheNearest() {
        int[] low = {Integer.MIN_VALUE, 0, 5, 6};
        for (int limit : low) {
            CupByCup x = Due.full(1, limit);
            x.go(1);
            Due.is("heat with nothing going on, limit " + limit, x.count(1), 913);
            x.order(0, 1, 0);
            x.go(1);
            Due.is("heat while grinding, limit " + limit, x.count(1), 912);
        }
        int[] high = {10, 30, 31, Integer.MAX_VALUE};
        for (int limit : high) {
            CupByCup x = Due.full(1, limit);
            x.order(0, 1, 0);
            x.go(1);
            Due.is("heat while grinding, limit " + limit, x.count(1), 913);
        }
        CupByCup nine = Due.full(1, 9);
        nine.order(0, 1, 0);
        nine.go(1);
        Due.is("heat while grinding, limit 9", nine.count(1), 899);
    }

    private static void allIsAtItsBeginning() {
        CupByCup x = new CupByCup(3, 20);
        int[] due = {0, 900, 0, 0, 0, 0, 0, 0, 0, 0, 0, 50, 0};
        for (int what = 0; what < due.length; what++) {
            Due.is("count(" + what + ") of a new object", x.count(what), due[what]);
        }
        for (int group = 0; group < 3; group++) {
            for (int what = 0; what < 4; what++) {
                Due.is("group(" + group + ", " + what + ")", x.group(group, what), 0);
            }
        }
        Due.is("order without recipes", x.order(0, 1, 0), -1);
        Due.is("sum()", x.sum(), -1);
        Due.is("NONE", CupByCup.NONE, -1);
    }
}
