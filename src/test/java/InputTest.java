/** Promises 9 and 10: give and element. */
public final class InputTest {
    public static void main(String[] args) {
        Due due = new Due("InputTest");
        numbers(due);
        arrays(due);
        due.close();
    }

    private static void numbers(Due due) {
        LiquidTongue tongue = new LiquidTongue();
        due.is("give(0, 1)", tongue.give(0, 1), false);
        Due.compile(tongue, "input x: int; input b: bool; if b then x else -x");
        due.is("run(9)", tongue.run(9), 0);
        due.is("value()", tongue.value(), 0);
        due.is("give(0, MAX)", tongue.give(0, Integer.MAX_VALUE), true);
        due.is("run(9)", tongue.run(9), 0);
        due.is("value()", tongue.value(), -2147483647L);
        due.is("give(0, MIN)", tongue.give(0, Integer.MIN_VALUE), true);
        due.is("run(9)", tongue.run(9), 0);
        due.is("value()", tongue.value(), 2147483648L);
        due.is("give(1, -7)", tongue.give(1, -7), true);
        due.is("run(9)", tongue.run(9), 0);
        due.is("value()", tongue.value(), -2147483648L);
        due.is("give(1, 0)", tongue.give(1, 0), true);
        due.is("run(9)", tongue.run(9), 0);
        due.is("value()", tongue.value(), 2147483648L);
        due.is("give(2, 1)", tongue.give(2, 1), false);
        due.is("give(-1, 1)", tongue.give(-1, 1), false);
        due.is("element(0, 0, 1)", tongue.element(0, 0, 1), false);
        due.is("element(1, 0, 1)", tongue.element(1, 0, 1), false);
        Due.compile(tongue, "input b: bool; b");
        due.is("give(0, 5)", tongue.give(0, 5), true);
        due.is("run(9)", tongue.run(9), 0);
        due.is("value() of a truth", tongue.value(), 1);
    }

    private static void arrays(Due due) {
        LiquidTongue tongue = new LiquidTongue();
        Due.compile(tongue, "input i: int; input a: array; let x=a[i] in set a[i]=x+1; let y=a[i] in y+len a");
        due.is("run(9) of none", tongue.run(9), 5);
        due.is("element(1, 0, 1) of none", tongue.element(1, 0, 1), false);
        due.is("give(1, -1)", tongue.give(1, -1), false);
        due.is("give(1, 1001)", tongue.give(1, 1001), false);
        due.is("give(1, 1000)", tongue.give(1, 1000), true);
        due.is("element(1, 999, -5)", tongue.element(1, 999, -5), true);
        due.is("element(1, 1000, 1)", tongue.element(1, 1000, 1), false);
        due.is("element(1, -1, 1)", tongue.element(1, -1, 1), false);
        due.is("element(2, 0, 1)", tongue.element(2, 0, 1), false);
        due.is("element(-1, 0, 1)", tongue.element(-1, 0, 1), false);
        due.is("give(0, 999)", tongue.give(0, 999), true);
        due.is("run(9)", tongue.run(9), 0);
        due.is("value()", tongue.value(), 996);
        due.is("run(9) again, as it is given", tongue.run(9), 0);
        due.is("value()", tongue.value(), 996);
        due.is("give(1, 1001)", tongue.give(1, 1001), false);
        due.is("run(9)", tongue.run(9), 0);
        due.is("value() behind what was not given", tongue.value(), 996);
        due.is("give(1, 1000) is all 0", tongue.give(1, 1000), true);
        due.is("run(9)", tongue.run(9), 0);
        due.is("value()", tongue.value(), 1001);
        due.is("give(1, 0)", tongue.give(1, 0), true);
        due.is("element(1, 0, 1)", tongue.element(1, 0, 1), false);
        due.is("give(1, 3)", tongue.give(1, 3), true);
        due.is("give(0, 2)", tongue.give(0, 2), true);
        due.is("run(9)", tongue.run(9), 0);
        due.is("value()", tongue.value(), 4);
        Due.compile(tongue, "input i: int; input a: array; a[i]");
        due.is("run(9) of INPUTS anew", tongue.run(9), 5);
    }
}
