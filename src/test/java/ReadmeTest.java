// The example of README.md, line by line: whoever changes one changes the other.
public final class ReadmeTest extends Checks {
    private static void example() {
        SwitchNet net = new SwitchNet();
        due("add(1, 5, 2)", 0, net.add(1, 5, 2));
        due("add(5, 6, 0)", 1, net.add(5, 6, 0));
        due("set(2, 1)", true, net.set(2, 1));
        due("holds(6)", 2, net.holds(6));
        due("would(6)", 1, net.would(6));
        due("roots(6)", 2, net.roots(6));
        due("settle()", 2, net.settle());
        due("holds(6)", 1, net.holds(6));
        due("inputsFor(6, 1)", 0, net.inputsFor(6, 1));
        due("inputsFor(6, 0)", BAD, net.inputsFor(6, 0));
    }

    public static void main(String[] args) {
        check("README.md: the example", ReadmeTest::example);
        finish();
    }
}
