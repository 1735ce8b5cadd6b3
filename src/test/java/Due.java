/** What the tests share: texts are fed, and each answer that is not the one due is told and counted. */
final class Due {
    private final String test;
    private int asked;
    private int wrong;
    /** The sentence of the document that is looked at, told with what is not as due. */
    private String sentence = "";

    Due(String test) {
        this.test = test;
    }

    void sentence(String words) {
        sentence = " (" + words + ")";
    }

    void is(String call, long got, long want) {
        asked++;
        if (got != want) {
            wrong++;
            System.out.println(test + sentence + ": " + call + " answered " + got + ", due is " + want);
        }
    }

    void is(String call, boolean got, boolean want) {
        is(call, got ? 1 : 0, want ? 1 : 0);
    }

    void is(String call, String got, String want) {
        asked++;
        if (!got.equals(want)) {
            wrong++;
            System.out.println(test + sentence + ": " + call + " told " + got + ", due is " + want);
        }
    }

    void close() {
        System.out.println(test + ": " + asked + " answers, " + wrong + " not as due");
        if (wrong != 0) {
            System.exit(1);
        }
    }

    static void feed(LiquidTongue tongue, String text) {
        for (int i = 0; i < text.length(); i += 20) {
            int[] numbers = new int[5];
            for (int j = 0; j < 20; j++) {
                int letter = i + j < text.length() ? text.charAt(i + j) : 0;
                numbers[j / 4] = numbers[j / 4] << 8 | letter;
            }
            tongue.feed(numbers[0], numbers[1], numbers[2], numbers[3], numbers[4]);
        }
        tongue.end(text.length());
    }

    static int compile(LiquidTongue tongue, String text) {
        feed(tongue, text);
        return tongue.compile();
    }

    /** The text compiles to a FAULT of this kind where the @ stands (which is no part of it). */
    void fault(int kind, String marked) {
        LiquidTongue tongue = new LiquidTongue();
        is("compile() of " + marked, compile(tongue, marked.replace("@", "")), kind);
        is("place() of " + marked, tongue.place(), marked.indexOf('@'));
        is("accepted() of " + marked, tongue.accepted(), -1);
        is("type(0) of " + marked, tongue.type(0), -1);
        is("run(10) of " + marked, tongue.run(10), -1);
    }

    /** The text compiles; it is accepted, or what is not SO stands at the @. */
    LiquidTongue judged(String marked) {
        LiquidTongue tongue = new LiquidTongue();
        is("compile() of " + marked, compile(tongue, marked.replace("@", "")), 0);
        is("place() of " + marked, tongue.place(), -1);
        is("accepted() of " + marked, tongue.accepted(), marked.indexOf('@') < 0 ? 1 : 0);
        is("place() of " + marked, tongue.place(), marked.indexOf('@'));
        return tongue;
    }

    /** The text is a PROGRAM, be it accepted or not. */
    LiquidTongue compiles(String text) {
        LiquidTongue tongue = new LiquidTongue();
        is("compile() of " + text, compile(tongue, text), 0);
        is("place() of " + text, tongue.place(), -1);
        return tongue;
    }

    static String told(LiquidTongue tongue, int k) {
        int length = tongue.type(k);
        StringBuilder text = new StringBuilder();
        for (int i = 0; i < length; i++) {
            text.append((char) tongue.out(i));
        }
        return length < 0 ? "none" : text.toString();
    }

    /** The types of all NAMES that are told in the text, in order; nothing is asked of what is accepted. */
    void types(String text, String... types) {
        LiquidTongue tongue = new LiquidTongue();
        is("compile() of " + text, compile(tongue, text), 0);
        tongue.accepted();
        for (int k = 0; k < types.length; k++) {
            is("type(" + k + ") of " + text, told(tongue, k), types[k]);
        }
        is("type(" + types.length + ") of " + text, tongue.type(types.length), -1);
    }

    /** The text, run with these INPUTS, ends like this. */
    void run(String text, int fuel, int end, long value, int took, int... inputs) {
        LiquidTongue tongue = new LiquidTongue();
        is("compile() of " + text, compile(tongue, text), 0);
        for (int i = 0; i < inputs.length; i++) {
            is("give(" + i + ", " + inputs[i] + ")", tongue.give(i, inputs[i]), true);
        }
        is("run(" + fuel + ") of " + text, tongue.run(fuel), end);
        is("value() of " + text, tongue.value(), value);
        is("fuel() of " + text, tongue.fuel(), took);
    }

    /** The text, run with these INPUTS, ends well and gives this; what FUEL it takes is not looked at. */
    void gives(String text, long value, int... inputs) {
        LiquidTongue tongue = new LiquidTongue();
        is("compile() of " + text, compile(tongue, text), 0);
        for (int i = 0; i < inputs.length; i++) {
            is("give(" + i + ", " + inputs[i] + ")", tongue.give(i, inputs[i]), true);
        }
        is("run(20000) of " + text, tongue.run(20000), 0);
        is("value() of " + text, tongue.value(), value);
    }

    static String times(String part, int count) {
        return part.repeat(Math.max(0, count));
    }
}
