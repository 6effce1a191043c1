public final class Promise11CupTest {
    public static void main(String[] args) {
        allOfACup();
        othersAreRefused();
        Due.end();
    }

    private static void row(String when, CupByCup x, int cup, int[] due) {
        for (int what = 0; what < 8; what++) {
            Due.is(when + ": cup(" + cup + ", " + what + ")", x.cup(cup, what), due[what]);
        }
    }

    private static void allOfACup() {
        CupByCup x = Due.empty(2, 30);
        x.go(4);
        x.order(0, 1, 0);
        x.order(1, 2, 1);
        row("as it comes", x, 2, new int[] {0, 1, 1, 4, -1, -1, -1, 0});
        x.take(1);
        row("taken back", x, 1, new int[] {7, 1, 1, 4, -1, -1, -1, 0});
        x.store(0, 10);
        x.go(1);
        row("ground now", x, 0, new int[] {1, 0, 0, 4, -1, -1, 2, 0});
        x.go(2);
        row("lies ground", x, 0, new int[] {2, 0, 0, 4, -1, -1, -1, 0});
        x.store(0, 12);
        x.go(1);
        row("ground now", x, 2, new int[] {1, 1, 1, 4, -1, -1, 3, 0});
        x.store(1, 110);
        x.fault(0, 3);
        x.go(3);
        row("brews", x, 0, new int[] {3, 0, 0, 4, -1, 1, 1, 0});
        row("brews too", x, 2, new int[] {3, 1, 1, 4, -1, 0, 4, 0});
        x.go(1);
        row("done", x, 0, new int[] {6, 0, 0, 4, 11, -1, -1, 0});
        x.go(3);
        row("brewed", x, 2, new int[] {4, 1, 1, 4, -1, -1, -1, 0});
        x.store(2, 80);
        x.go(2);
        row("steams", x, 2, new int[] {5, 1, 1, 4, -1, -1, 9, 0});
        x.go(9);
        row("done too", x, 2, new int[] {6, 1, 1, 4, 25, -1, -1, 0});
        x.go(50);
        row("done for long", x, 2, new int[] {6, 1, 1, 4, 25, -1, -1, 0});
    }

    private static void othersAreRefused() {
        CupByCup x = Due.full(1, 30);
        Due.is("cup(0, 0) without cups", x.cup(0, 0), -1);
        x.order(0, 2, 1);
        int[] noCups = {-1, 2, 100, Integer.MIN_VALUE, Integer.MAX_VALUE};
        for (int cup : noCups) {
            for (int what = -1; what <= 8; what++) {
                Due.is("cup(" + cup + ", " + what + ")", x.cup(cup, what), -1);
            }
        }
        int[] noWhats = {-1, 8, Integer.MIN_VALUE, Integer.MAX_VALUE};
        for (int what : noWhats) {
            Due.is("cup(0, " + what + ")", x.cup(0, what), -1);
        }
    }
}
