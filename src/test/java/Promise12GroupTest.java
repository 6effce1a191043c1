public final class Promise12GroupTest {
    public static void main(String[] args) {
        allOfAGroup();
        othersAreRefused();
        Due.end();
    }

    private static void row(String when, CupByCup x, int group, int[] due) {
        for (int what = 0; what < 4; what++) {
            String call = when + ": group(" + group + ", " + what + ")";
            Due.is(call, x.group(group, what), due[what]);
        }
    }

    private static void allOfAGroup() {
        CupByCup x = Due.full(2, 30);
        x.recipe(5104000, 10000);
        row("new", x, 0, new int[] {0, 0, 0, 0});
        x.fault(1, 20);
        x.order(2, 5, 0);
        x.go(2);
        row("brews", x, 0, new int[] {1, 4, 1, 0});
        row("at fault", x, 1, new int[] {0, 0, 0, 18});
        x.go(3);
        row("brews", x, 0, new int[] {1, 1, 1, 0});
        x.go(1);
        row("brews the next one", x, 0, new int[] {1, 4, 2, 0});
        x.go(12);
        row("brews the last one", x, 0, new int[] {1, 4, 5, 0});
        x.go(4);
        row("rinses", x, 0, new int[] {2, 6, 5, 0});
        row("fault is over", x, 1, new int[] {0, 0, 0, 0});
        x.go(5);
        row("rinses", x, 0, new int[] {2, 1, 5, 0});
        x.go(1);
        row("free", x, 0, new int[] {0, 0, 0, 0});
    }

    private static void othersAreRefused() {
        CupByCup x = Due.full(2, 30);
        int[] noGroups = {-1, 2, 3, Integer.MIN_VALUE, Integer.MAX_VALUE};
        for (int group : noGroups) {
            for (int what = -1; what <= 4; what++) {
                Due.is("group(" + group + ", " + what + ")", x.group(group, what), -1);
            }
        }
        int[] noWhats = {-1, 4, Integer.MIN_VALUE, Integer.MAX_VALUE};
        for (int what : noWhats) {
            Due.is("group(1, " + what + ")", x.group(1, what), -1);
        }
    }
}
