/** The lines of use in README.md answer what stands behind them there. */
public final class ReadmeTest {
    public static void main(String[] args) {
        CupByCup machine = new CupByCup(2, 12);
        int espresso = machine.recipe(10203000, 50000);
        Due.is("recipe(10203000, 50000)", espresso, 0);
        Due.is("store(0, 1000)", machine.store(0, 1000), 1000);
        Due.is("store(1, 1000)", machine.store(1, 1000), 1000);
        int first = machine.order(espresso, 2, 0);
        Due.is("order(0, 2, 0)", first, 0);
        Due.is("sum()", machine.sum(), 12);
        Due.is("go(10)", machine.go(10), 10);
        Due.is("cup(0, 0)", machine.cup(first, 0), 6);
        Due.is("cup(0, 4)", machine.cup(first, 4), 5);
        Due.is("count(7)", machine.count(7), 900);
        Due.end();
    }
}
