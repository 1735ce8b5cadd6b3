import java.util.ArrayList;
import java.util.List;
import java.util.Random;

/**
 * Promises 5 and 11 together, over texts that are made by chance from fixed seeds: what the asserts of conditions say is
 * what all small numbers say, no accepted program fails, and no text at all makes a call throw.
 */
public final class SoundnessTest {
    private static final String[] RELATIONS = {"=", "<", "<=", ">", ">=", "#"};
    private static final String[] WORDS = ("array assert bool cons else false fun if in input int len let list match new "
            + "nil not qual rec set size then true v with ( ) [ ] , ; : = # < <= > >= + - * / % && || -> x y f 0 1 77").split(" ");
    private final Random random;
    private final Due due;

    private SoundnessTest(long seed, Due due) {
        this.random = new Random(seed);
        this.due = due;
    }

    public static void main(String[] args) {
        Due due = new Due("SoundnessTest");
        for (int seed = 0; seed < 1500; seed++) {
            new SoundnessTest(seed, due).implication();
        }
        for (int seed = 0; seed < 4000; seed++) {
            new SoundnessTest(seed, due).program();
        }
        for (int seed = 0; seed < 2000; seed++) {
            new SoundnessTest(seed, due).anyWords();
        }
        for (int seed = 0; seed < 300; seed++) {
            new SoundnessTest(seed, due).anyCalls();
        }
        due.close();
    }

    private int below(int n) {
        return random.nextInt(n);
    }

    private String pick(List<String> from) {
        return from.get(below(from.size()));
    }

    /** Three unknowns, four comparisons that hold, and one that is asked for. */
    private void implication() {
        int[][] comparisons = new int[5][];
        StringBuilder text = new StringBuilder("input x: int; input y: int; input z: int; if ");
        for (int i = 0; i < 5; i++) {
            // Two different unknowns, once each, or one once or twice; a number; a relation.
            int[] c = new int[5];
            int one = below(3);
            c[one] = random.nextBoolean() ? 1 : -1;
            int other = below(3);
            c[other] += other == one ? c[one] * below(2) : random.nextBoolean() ? 1 : -1;
            c[3] = below(9) - 4;
            c[4] = below(6);
            comparisons[i] = c;
            text.append(i == 0 ? "" : i == 4 ? " then assert " : " && ").append(told(c));
        }
        text.append("; 1 else 0");
        LiquidTongue tongue = new LiquidTongue();
        due.is("compile() of " + text, Due.compile(tongue, text.toString()), 0);
        due.is("accepted() of " + text, tongue.accepted() == 1, follows(comparisons));
    }

    private static String told(int[] c) {
        StringBuilder text = new StringBuilder("0");
        for (int i = 0; i < 3; i++) {
            for (int k = 0; k < Math.abs(c[i]); k++) {
                text.append(c[i] > 0 ? "+" : "-").append("xyz".charAt(i));
            }
        }
        return text + RELATIONS[c[4]] + c[3];
    }

    /** Numbers this small are enough: sums of all limits around stay below them. */
    private static boolean follows(int[][] comparisons) {
        for (int x = -30; x <= 30; x++) {
            for (int y = -30; y <= 30; y++) {
                for (int z = -30; z <= 30; z++) {
                    boolean all = true;
                    for (int i = 0; i < 4 && all; i++) {
                        all = holds(comparisons[i], x, y, z);
                    }
                    if (all && !holds(comparisons[4], x, y, z)) {
                        return false;
                    }
                }
            }
        }
        return true;
    }

    private static boolean holds(int[] c, int x, int y, int z) {
        int sum = c[0] * x + c[1] * y + c[2] * z;
        switch (c[4]) {
            case 0:
                return sum == c[3];
            case 1:
                return sum < c[3];
            case 2:
                return sum <= c[3];
            case 3:
                return sum > c[3];
            case 4:
                return sum >= c[3];
            default:
                return sum != c[3];
        }
    }

    private void anyWords() {
        StringBuilder text = new StringBuilder();
        int count = below(60);
        for (int i = 0; i < count; i++) {
            text.append(WORDS[below(WORDS.length)]).append(below(4) == 0 ? "" : " ");
        }
        LiquidTongue tongue = new LiquidTongue();
        int kind = Due.compile(tongue, text.toString());
        due.is("compile() of " + text + " is a kind", kind >= 0 && kind <= 5, true);
        due.is("place() of " + text, kind == 0 ? tongue.place() == -1 : tongue.place() >= 0, true);
        tongue.accepted();
        tongue.type(0);
        tongue.run(100);
    }

    private int anyNumber() {
        int[] edges = {Integer.MIN_VALUE, -2, -1, 0, 1, 2, 3, 7, 999, 1000, 1001, 2000, 20000, 20001, Integer.MAX_VALUE};
        return edges[below(edges.length)];
    }

    /** Calls in any order with any numbers; all 512 that an object is good for. */
    private void anyCalls() {
        String[] texts = {"input a: array; input i: int; set a[i]=i; a[i]*i", "let rec f x = f (x+1) in f 0", "1+",
            "qual int: v>=*; input b: bool; let rec f x y = if b then x else y in let l=nil in cons 1 l", "", "10/0"};
        LiquidTongue tongue = new LiquidTongue();
        boolean program = false;
        for (int calls = 0; calls < 512; calls++) {
            switch (below(11)) {
                case 0:
                    String text = texts[below(texts.length)];
                    calls += 1 + (text.length() + 19) / 20;
                    tongue.end(0);
                    program = Due.compile(tongue, text) == 0;
                    break;
                case 1:
                    due.is("accepted() without a program", tongue.accepted() == -1, !program);
                    break;
                case 2:
                    due.is("place() is in the text", tongue.place() >= -1 && tongue.place() <= 2000, true);
                    break;
                case 3:
                    int length = tongue.type(anyNumber());
                    due.is("out(-1) behind type", length < 0 || tongue.out(-1) == length, true);
                    break;
                case 4:
                    int letter = tongue.out(anyNumber());
                    due.is("out is a byte or -1", letter >= -1 && letter <= 255 || letter == tongue.out(-1), true);
                    break;
                case 5:
                    due.is("give without a program", tongue.give(anyNumber(), anyNumber()) && !program, false);
                    break;
                case 6:
                    due.is("element without a program", tongue.element(anyNumber(), anyNumber(), anyNumber()) && !program, false);
                    break;
                case 7:
                    int end = tongue.run(anyNumber());
                    due.is("run ends somehow", end >= (program ? -1 : 0) && end <= 6, end != -1 || program);
                    break;
                case 8:
                    due.is("fuel() is in its limits", tongue.fuel() >= 0 && tongue.fuel() <= 20000, true);
                    break;
                case 9:
                    tongue.feed(anyNumber(), anyNumber(), anyNumber(), anyNumber(), anyNumber());
                    break;
                default:
                    tongue.end(anyNumber());
            }
        }
    }

    /** A program that is likely to compile; if it is accepted, no run of it fails an assert, divides by 0 and so on. */
    private void program() {
        Maker maker = new Maker();
        String text = maker.make();
        LiquidTongue tongue = new LiquidTongue();
        if (Due.compile(tongue, text) != 0) {
            return;
        }
        int accepted = tongue.accepted();
        for (int k = 0; k < maker.told; k++) {
            due.is("type(" + k + ") of " + text, tongue.type(k) > 0 || tongue.out(-1) >= 0, true);
        }
        for (int i = 0; i < 6; i++) {
            for (int k = 0; k < maker.inputs; k++) {
                int v = below(3) == 0 ? below(2000) - 1000 : below(9) - 3;
                if (tongue.give(k, v)) {
                    tongue.element(k, below(5), below(9) - 4);
                }
            }
            int end = tongue.run(3000);
            due.is("run(3000) of " + text + " ended by " + end, end < 0 || end > 6 || accepted == 1 && end > 2, false);
        }
    }

    /** Makes texts in which what is of a type stands where that type must. */
    private final class Maker {
        private final List<String> ints = new ArrayList<>();
        private final List<String> arrays = new ArrayList<>();
        private final List<String> lists = new ArrayList<>();
        private final List<String> truths = new ArrayList<>();
        private final List<String> functions = new ArrayList<>();
        private int told;
        private int inputs;
        private int budget = 6 + below(20);

        private String make() {
            StringBuilder text = new StringBuilder();
            String[] bases = {"int", "int", "int", "array", "list"};
            int quals = below(7);
            for (int i = 0; i < quals; i++) {
                text.append("qual ").append(bases[below(5)]).append(": v").append(RELATIONS[below(5)]);
                text.append(below(2) == 0 ? "" + below(3) : below(6) == 0 ? "-*" : "*").append(";");
            }
            inputs = below(4);
            for (int i = 0; i < inputs; i++) {
                int kind = below(4);
                List<String> names = kind == 0 ? truths : kind == 1 ? arrays : ints;
                String name = name(names);
                text.append("input ").append(name).append(kind == 0 ? ": bool;" : kind == 1 ? ": array;" : ": int;");
            }
            return text.append(e()).toString();
        }

        private String name(List<String> names) {
            String name = "n" + told;
            told++;
            names.add(name);
            return name;
        }

        private void drop(List<String> names) {
            names.remove(names.size() - 1);
        }

        private String part() {
            int kind = below(6);
            if (kind < 3 && !ints.isEmpty()) {
                return pick(ints);
            }
            if (kind == 3 && !arrays.isEmpty()) {
                return "len " + pick(arrays);
            }
            if (kind == 4 && !lists.isEmpty()) {
                return "size " + pick(lists);
            }
            return "" + below(6);
        }

        private String s() {
            String text = (below(12) == 0 ? "-" : "") + part();
            return below(3) == 0 ? text + (below(2) == 0 ? "+" : "-") + (below(4) == 0 ? part() : "" + below(4)) : text;
        }

        private String c() {
            int kind = below(10);
            if (kind == 0) {
                return c() + " && " + c();
            }
            if (kind == 1) {
                return "(" + c() + " || " + c() + ")";
            }
            if (kind == 2) {
                return "not " + (truths.isEmpty() ? "false" : pick(truths));
            }
            return part() + RELATIONS[below(6)] + part();
        }

        /** An E that is an int. */
        private String e() {
            budget--;
            int kind = budget > 0 ? below(13) : 13;
            switch (kind) {
                case 0:
                case 1:
                    String first = e();
                    return "let " + name(ints) + "=" + first + " in " + behind(ints);
                case 2:
                    String length = s();
                    return "let " + name(arrays) + "=new " + length + " in " + behind(arrays);
                case 3:
                    return let("nil");
                case 4:
                    return lists.isEmpty() ? let("nil") : let("cons " + s() + " " + pick(lists));
                case 5:
                case 6:
                    return "if " + c() + " then " + e() + " else " + e();
                case 7:
                    return "assert " + c() + "; " + e();
                case 8:
                    return arrays.isEmpty() ? e() : "set " + pick(arrays) + "[" + s() + "]=" + s() + "; " + e();
                case 9:
                    return lists.isEmpty() ? e() : match();
                case 10:
                case 11:
                    return function();
                default:
                    return leaf();
            }
        }

        private String behind(List<String> names) {
            String text = e();
            drop(names);
            return text;
        }

        private String let(String what) {
            return "let " + name(lists) + "=" + what + " in " + behind(lists);
        }

        private String match() {
            String text = "match " + pick(lists) + " with nil -> " + e() + "; ";
            text += name(ints) + " " + name(lists) + " -> " + behind(lists);
            drop(ints);
            return text;
        }

        private String function() {
            String f = name(functions);
            String text = "let rec " + f + " " + name(ints) + " " + name(ints) + " = ";
            text += "if " + c() + " then " + e() + " else " + e() + " in ";
            drop(ints);
            drop(ints);
            return text + behind(functions);
        }

        private String leaf() {
            int kind = below(6);
            if (kind < 2 && !functions.isEmpty()) {
                return pick(functions) + " " + argument() + " " + argument();
            }
            if (kind == 2 && !arrays.isEmpty()) {
                return pick(arrays) + "[" + s() + "]";
            }
            return kind == 3 ? s() + "/" + s() : kind == 4 ? s() + "%" + s() : s();
        }

        private String argument() {
            String part = part();
            return "(" + part + (below(2) == 0 ? "" : below(2) == 0 ? "-1" : "+1") + ")";
        }
    }
}
