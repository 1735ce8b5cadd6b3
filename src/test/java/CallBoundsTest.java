/** The promises 1 to 13, sentence by sentence: each call at its edges, and what the others answer behind a refused one. */
public final class CallBoundsTest {
    private static final int BLANKS = 0x20202020;

    public static void main(String[] args) {
        Due due = new Due("CallBoundsTest");
        newObject(due);
        feedOrder(due);
        feedFull(due);
        feedBehind(due);
        end(due);
        tapeIsEmptyThen(due);
        inputsAnew(due);
        noneNow(due);
        accepted(due);
        place(due);
        typeRefused(due);
        typeNumbers(due);
        typeLength(due);
        typeText(due);
        typeOfFunctions(due);
        out(due);
        give(due);
        giveRefused(due);
        element(due);
        elementRefused(due);
        run(due);
        givenStays(due);
        value(due);
        fuel(due);
        manyCalls(due);
        due.close();
    }

    private static void newObject(Due due) {
        due.sentence("LiquidTongue(): No program, an empty tape");
        due.is("accepted()", new LiquidTongue().accepted(), -1);
        due.is("place()", new LiquidTongue().place(), -1);
        due.is("type(0)", new LiquidTongue().type(0), -1);
        due.is("out(-1)", new LiquidTongue().out(-1), 0);
        due.is("out(0)", new LiquidTongue().out(0), -1);
        due.is("give(0, 0)", new LiquidTongue().give(0, 0), false);
        due.is("element(0, 0, 0)", new LiquidTongue().element(0, 0, 0), false);
        due.is("run(0)", new LiquidTongue().run(0), -1);
        due.is("run(20000)", new LiquidTongue().run(20000), -1);
        due.is("value()", new LiquidTongue().value(), 0);
        due.is("fuel()", new LiquidTongue().fuel(), 0);
        due.is("end(0)", new LiquidTongue().end(0), true);
        due.is("end(1)", new LiquidTongue().end(1), false);
        LiquidTongue tongue = new LiquidTongue();
        due.is("compile()", tongue.compile(), 2);
        due.is("place()", tongue.place(), 0);
        // Objects have nothing in common.
        LiquidTongue other = new LiquidTongue();
        Due.compile(tongue, "5");
        tongue.run(9);
        due.is("run(9) of another object", other.run(9), -1);
        due.is("value() of another object", other.value(), 0);
        due.is("value()", tongue.value(), 5);
    }

    private static int number(String four) {
        return four.charAt(0) << 24 | four.charAt(1) << 16 | four.charAt(2) << 8 | four.charAt(3);
    }

    private static void feedOrder(Due due) {
        due.sentence("feed: Twenty bytes come behind the tape, of each number the highest first");
        LiquidTongue tongue = new LiquidTongue();
        due.is("feed", tongue.feed(number("let "), number("x=12"), number("34 i"), number("n x-"), number("5678")), true);
        due.is("end(21)", tongue.end(21), false);
        due.is("end(20)", tongue.end(20), true);
        due.is("compile()", tongue.compile(), 0);
        due.is("run(9)", tongue.run(9), 0);
        due.is("value()", tongue.value(), 1234 - 5678);
        for (int i = 0; i < 20; i++) {
            int[] numbers = {BLANKS, BLANKS, BLANKS, BLANKS, BLANKS};
            int shift = 24 - i % 4 * 8;
            numbers[i / 4] = numbers[i / 4] & ~(255 << shift) | 255 << shift;
            due.is("feed", tongue.feed(numbers[0], numbers[1], numbers[2], numbers[3], numbers[4]), true);
            due.is("compile() with a byte 255 at " + i, tongue.compile(), 1);
            due.is("place()", tongue.place(), i);
        }
    }

    private static LiquidTongue withBlanks(int bytes) {
        LiquidTongue tongue = new LiquidTongue();
        for (int i = 0; i < bytes; i += 20) {
            tongue.feed(BLANKS, BLANKS, BLANKS, BLANKS, BLANKS);
        }
        tongue.end(bytes);
        return tongue;
    }

    private static void feedFull(Due due) {
        due.sentence("feed: false, changing nothing, when it would have more than 2000");
        int nine = number("9   ");
        for (int bytes = 1975; bytes <= 2000; bytes++) {
            LiquidTongue tongue = withBlanks(bytes);
            boolean fits = bytes + 20 <= 2000;
            int length = fits ? bytes + 20 : bytes;
            due.is("feed behind " + bytes, tongue.feed(nine, BLANKS, BLANKS, BLANKS, number("   !")), fits);
            due.is("end(" + (length + 1) + ")", tongue.end(length + 1), false);
            due.is("end(" + length + ")", tongue.end(length), true);
            due.is("compile()", tongue.compile(), fits ? 1 : 2);
            due.is("place()", tongue.place(), fits ? bytes + 19 : bytes);
        }
        LiquidTongue tongue = withBlanks(1980);
        due.is("feed behind 1980", tongue.feed(nine, BLANKS, BLANKS, BLANKS, BLANKS), true);
        due.is("feed behind 2000", tongue.feed(nine, nine, nine, nine, nine), false);
        due.is("feed behind 2000 again", tongue.feed(nine, nine, nine, nine, nine), false);
        due.is("compile()", tongue.compile(), 0);
        due.is("run(1)", tongue.run(1), 0);
        due.is("value()", tongue.value(), 9);
    }

    private static void feedBehind(Due due) {
        due.sentence("feed: bytes come behind the tape");
        LiquidTongue tongue = new LiquidTongue();
        due.is("feed", tongue.feed(number("1+2+"), number("3+4+"), number("5+6+"), number("7+8+"), number("9+10")), true);
        due.is("feed", tongue.feed(number("+11+"), number("12+1"), number("3+14"), BLANKS, BLANKS), true);
        due.is("compile()", tongue.compile(), 0);
        due.is("run(1)", tongue.run(1), 0);
        due.is("value()", tongue.value(), 105);
        due.is("feed", tongue.feed(number("7   "), BLANKS, BLANKS, BLANKS, BLANKS), true);
        due.is("end(1)", tongue.end(1), true);
        due.is("feed behind what counts", tongue.feed(number("777 "), BLANKS, BLANKS, BLANKS, BLANKS), true);
        due.is("end(22)", tongue.end(22), false);
        due.is("end(21)", tongue.end(21), true);
        due.is("compile()", tongue.compile(), 0);
        due.is("run(1)", tongue.run(1), 0);
        due.is("value()", tongue.value(), 7777);
    }

    private static void end(Due due) {
        due.sentence("end: Of the tape only the first n bytes count; false, changing nothing, when it has not so many, or n is below 0");
        LiquidTongue tongue = new LiquidTongue();
        due.is("feed", tongue.feed(number("1234"), number("+5+6"), number("+7+8"), number("+9+1"), number("+2+3")), true);
        int[] refused = {21, -1, 22, 2000, 2001, Integer.MAX_VALUE, Integer.MIN_VALUE, -20};
        for (int n : refused) {
            due.is("end(" + n + ")", tongue.end(n), false);
        }
        due.is("end(20)", tongue.end(20), true);
        due.is("end(20) again", tongue.end(20), true);
        due.is("end(6)", tongue.end(6), true);
        due.is("end(7)", tongue.end(7), false);
        due.is("end(-1)", tongue.end(-1), false);
        due.is("compile()", tongue.compile(), 0);
        due.is("run(1)", tongue.run(1), 0);
        due.is("value()", tongue.value(), 1239);
        Due.feed(tongue, "1234");
        due.is("end(5)", tongue.end(5), false);
        due.is("end(1)", tongue.end(1), true);
        due.is("compile()", tongue.compile(), 0);
        due.is("run(1)", tongue.run(1), 0);
        due.is("value()", tongue.value(), 1);
        Due.feed(tongue, "1234");
        due.is("end(0)", tongue.end(0), true);
        due.is("end(1)", tongue.end(1), false);
        due.is("compile() of none", tongue.compile(), 2);
        due.is("place()", tongue.place(), 0);
        LiquidTongue full = withBlanks(2000);
        due.is("end(2001)", full.end(2001), false);
        due.is("end(2000)", full.end(2000), true);
        due.is("compile()", full.compile(), 2);
        due.is("place()", full.place(), 2000);
    }

    private static void tapeIsEmptyThen(Due due) {
        due.sentence("compile: The tape (empty then)");
        String[] texts = {"1", "!", "(", "x", "1+1", "let b=true in b+1", "input x: int; if x+x+x<1 then 1 else 2"};
        for (String text : texts) {
            LiquidTongue tongue = new LiquidTongue();
            Due.compile(tongue, text);
            due.is("end(1) behind compile() of " + text, tongue.end(1), false);
            due.is("end(0) behind compile() of " + text, tongue.end(0), true);
            due.is("compile() again", tongue.compile(), 2);
            due.is("place()", tongue.place(), 0);
            due.is("run(9)", tongue.run(9), -1);
        }
    }

    private static void inputsAnew(Due due) {
        due.sentence("compile: it is the one now (its inputs are 0, false, arrays of none)");
        LiquidTongue tongue = new LiquidTongue();
        String text = "input x: int; input b: bool; input a: array; if b then 1 else x+len a";
        for (int i = 0; i < 3; i++) {
            due.is("compile()", Due.compile(tongue, text), 0);
            due.is("run(9)", tongue.run(9), 0);
            due.is("value()", tongue.value(), 0);
            due.is("element(2, 0, 1)", tongue.element(2, 0, 1), false);
            due.is("give(0, 5)", tongue.give(0, 5), true);
            due.is("give(2, 7)", tongue.give(2, 7), true);
            due.is("element(2, 0, 1)", tongue.element(2, 0, 1), true);
            due.is("run(9)", tongue.run(9), 0);
            due.is("value()", tongue.value(), 12);
            due.is("give(1, 1)", tongue.give(1, 1), true);
            due.is("run(9)", tongue.run(9), 0);
            due.is("value()", tongue.value(), 1);
        }
        due.is("compile()", Due.compile(tongue, "input x: array; input b: int; input a: bool; if a then 1 else len x+b"), 0);
        due.is("run(9)", tongue.run(9), 0);
        due.is("value()", tongue.value(), 0);
        due.is("give(0, 1)", tongue.give(0, 1), true);
        due.is("give(2, 1)", tongue.give(2, 1), true);
        due.is("compile() of a FAULT between", Due.compile(tongue, "1+"), 2);
        due.is("compile()", Due.compile(tongue, text), 0);
        due.is("run(9)", tongue.run(9), 0);
        due.is("value()", tongue.value(), 0);
        due.is("compile()", Due.compile(tongue, "input a: array; a[0]"), 0);
        due.is("give(0, 1)", tongue.give(0, 1), true);
        due.is("element(0, 0, 8)", tongue.element(0, 0, 8), true);
        due.is("compile()", Due.compile(tongue, "input a: array; a[0]"), 0);
        due.is("run(9)", tongue.run(9), 5);
        due.is("give(0, 1)", tongue.give(0, 1), true);
        due.is("run(9)", tongue.run(9), 0);
        due.is("value()", tongue.value(), 0);
    }

    private static void noneNow(Due due) {
        due.sentence("compile: or the kind of its FAULT, with none now");
        String[] texts = {"!", "(", "x", "let b=true in b+1", "input x: int; if x+x+x<1 then 1 else 2"};
        for (int i = 0; i < texts.length; i++) {
            LiquidTongue tongue = new LiquidTongue();
            due.is("compile()", Due.compile(tongue, "input x: int; input a: array; x+1"), 0);
            due.is("accepted()", tongue.accepted(), 1);
            due.is("give(1, 5)", tongue.give(1, 5), true);
            due.is("run(9)", tongue.run(9), 0);
            due.is("type(0)", tongue.type(0), 3);
            due.is("compile() of " + texts[i], Due.compile(tongue, texts[i]), i + 1);
            due.is("type(0)", tongue.type(0), -1);
            due.is("accepted()", tongue.accepted(), -1);
            due.is("type(0) behind accepted()", tongue.type(0), -1);
            due.is("give(0, 1)", tongue.give(0, 1), false);
            due.is("give(1, 1)", tongue.give(1, 1), false);
            due.is("element(1, 0, 1)", tongue.element(1, 0, 1), false);
            due.is("run(9)", tongue.run(9), -1);
            due.is("value()", tongue.value(), 0);
            due.is("fuel()", tongue.fuel(), 1);
            due.is("out(-1)", tongue.out(-1), 3);
        }
    }

    private static void accepted(Due due) {
        due.sentence("accepted: Whether the program is ACCEPTED: 1, 0; -1 without a program");
        LiquidTongue tongue = new LiquidTongue();
        due.is("accepted()", tongue.accepted(), -1);
        Due.compile(tongue, "10/1");
        due.is("accepted()", tongue.accepted(), 1);
        due.is("accepted() again", tongue.accepted(), 1);
        Due.compile(tongue, "10/0");
        due.is("accepted()", tongue.accepted(), 0);
        due.is("run(9), accepted or not", tongue.run(9), 4);
        due.is("accepted() again", tongue.accepted(), 0);
        Due.compile(tongue, "10/");
        due.is("accepted()", tongue.accepted(), -1);
        Due.compile(tongue, "input x: int; 10/x");
        tongue.give(0, 5);
        due.is("run(9), not asked whether it is accepted", tongue.run(9), 0);
        due.is("value()", tongue.value(), 2);
        due.is("accepted(), whatever was given", tongue.accepted(), 0);
    }

    private static void place(Due due) {
        due.sentence("place: Where the latest FAULT of compile() is, or, when accepted() was asked since compile(), what must be SO and is not; -1 if there is none such");
        LiquidTongue tongue = new LiquidTongue();
        due.is("place()", tongue.place(), -1);
        Due.compile(tongue, "1 + ");
        due.is("place() of a FAULT", tongue.place(), 4);
        due.is("place() again", tongue.place(), 4);
        due.is("compile()", tongue.compile(), 2);
        due.is("place() of the latest", tongue.place(), 0);
        Due.compile(tongue, "let x=10/0 in 1");
        due.is("place() before accepted()", tongue.place(), -1);
        tongue.run(9);
        due.is("place() behind a run", tongue.place(), -1);
        tongue.accepted();
        due.is("place() behind accepted()", tongue.place(), 8);
        tongue.type(0);
        tongue.run(9);
        tongue.give(0, 0);
        tongue.feed(0, 0, 0, 0, 0);
        tongue.end(0);
        due.is("place() behind others", tongue.place(), 8);
        Due.compile(tongue, "let x=10/0 in 1");
        due.is("place() behind compile()", tongue.place(), -1);
        Due.compile(tongue, "10/5");
        tongue.accepted();
        due.is("place() of what is accepted", tongue.place(), -1);
    }

    private static void typeRefused(Due due) {
        due.sentence("type: -1 without one, or when accepted() was not asked since compile()");
        LiquidTongue tongue = new LiquidTongue();
        due.is("type(0)", tongue.type(0), -1);
        Due.compile(tongue, "let x=7 in let y=true in 10/0");
        due.is("type(0) before accepted()", tongue.type(0), -1);
        due.is("out(-1)", tongue.out(-1), 0);
        due.is("accepted()", tongue.accepted(), 0);
        due.is("out(-1) behind accepted()", tongue.out(-1), 0);
        due.is("type(0)", Due.told(tongue, 0), "{v=7}int");
        int[] others = {2, 3, -1, -2, Integer.MAX_VALUE, Integer.MIN_VALUE};
        for (int k : others) {
            due.is("type(" + k + ")", tongue.type(k), -1);
            due.is("out(-1)", tongue.out(-1), 8);
            due.is("out(3)", tongue.out(3), '7');
        }
        due.is("type(1)", Due.told(tongue, 1), "bool");
        due.is("type(0) again", Due.told(tongue, 0), "{v=7}int");
        Due.compile(tongue, "let x=true in 1");
        due.is("out(-1) behind compile()", tongue.out(-1), 8);
        due.is("type(0) not asked since compile()", tongue.type(0), -1);
        due.is("out(3) stays", tongue.out(3), '7');
        tongue.accepted();
        due.is("type(0)", Due.told(tongue, 0), "bool");
        Due.compile(tongue, "1");
        tongue.accepted();
        due.is("type(0) of no NAME", tongue.type(0), -1);
    }

    private static void typeNumbers(Due due) {
        due.sentence("type: The type of the NAME that is told as number k in the text (INPUTS too, from 0)");
        due.types("input a: array; input b: bool; let rec f c d = (let g=true in let h=new 1 in c) in let l=nil in let i=(fun j -> true) in "
                + "match l with nil -> f 1 2; k m -> let n=f k 2 in n",
                "array", "bool", "c:int->d:int->int", "int", "int", "bool", "{v=1}array", "{v=0}list", "j:int->bool", "int", "int", "{v=size l-1}list", "int");
        due.types("let rec f g x = g x in f (fun y -> y) 1", "g:($0:int->int)->x:int->int", "$0:int->int", "int", "int");
        due.types("let x=(let x=1 in x) in x", "int", "{v=1}int");
        due.types("let x=(let y=1 in true) in 2", "bool", "{v=1}int");
    }

    /** A type of 16000 bytes, and one of one more; both of a function that is never called, so that all is said. */
    private static void typeLength(Due due) {
        due.sentence("type: -1 for more than 16000 (the OUT stays)");
        String most = "qual int: v<=*+999;qual int: v>=*-9;qual int: v<*+999;qual int: v>*-999;qual int: v=-*+9999;qual int: v<=-*-9;"
                + "let rec f aaaaaaaaaa bbbbbbbb cccc ddddd = fun g -> let q0=g 1 2 3 4 in let q1=q0 1 2 3 4 in let q2=q1 1 2 3 4 in "
                + "let q3=q2 1 2 3 4 in let q4=q3 1 in q4 in let x=1 in 1";
        LiquidTongue tongue = new LiquidTongue();
        due.is("compile()", Due.compile(tongue, most), 0);
        due.is("accepted()", tongue.accepted(), 1);
        due.is("type(0)", tongue.type(0), 16000);
        due.is("out(-1)", tongue.out(-1), 16000);
        due.is("out(0)", tongue.out(0), 'a');
        due.is("out(15998)", tongue.out(15998), 'n');
        due.is("out(15999)", tongue.out(15999), 't');
        due.is("out(16000)", tongue.out(16000), -1);
        String more = "qual int: v<=*+9;qual int: v>=*-999;qual int: v<*+9;qual int: v>*-999;qual int: v=-*+999;qual int: v<=-*-99;"
                + "let rec f aaaaaaaaa bbbbb ccccc d = fun g -> let q0=g 1 2 3 4 in let q1=q0 1 2 3 4 in let q2=q1 1 2 3 4 in "
                + "let q3=q2 1 2 3 4 in let q4=q3 1 2 in q4 in let x=1 in 1";
        due.is("compile()", Due.compile(tongue, more), 0);
        due.is("accepted()", tongue.accepted(), 1);
        due.is("type(0) of 16001", tongue.type(0), -1);
        due.is("out(-1) stays", tongue.out(-1), 16000);
        due.is("out(0) stays", tongue.out(0), 'a');
        due.is("out(10) stays", tongue.out(10), ':');
        due.is("out(15999) stays", tongue.out(15999), 't');
        due.is("type(11)", Due.told(tongue, 11), "{v=1}int");
        due.is("type(0) of 16001", tongue.type(0), -1);
        due.is("out(-1) stays", tongue.out(-1), 8);
        due.is("out(3) stays", tongue.out(3), '1');
    }

    private static void typeText(Due due) {
        due.sentence("type: a REFINEMENT as { FACTS with & between } ahead of it, if it says any: 'v', REL as told, and what is told");
        due.types("qual int: v>1; input b: bool; let x=(if b then 1 else 2) in let y=(if b then 2 else 3) in 1", "bool", "int", "{v>1}int");
        due.types("qual int: v = 1; qual int: v < 2; qual int: v <= 1; qual int: v > 0; qual int: v >= 1; input b: bool; let x=(if b then 1 else 1) in 1",
                "bool", "{v=1&v<2&v<=1&v>0&v>=1}int");
        due.sentence("type: with NAMES in the place of * (len ahead of arrays', size of lists')");
        due.types("qual int: v<=*+1; input x: int; input a: array; let l=nil in let rec f y = 1 in 1", "int", "array", "{v=0}list",
                "y:{v<=x+1&v<=len a+1&v<=size l+1}int->{v<=len a+1&v<=size l+1}int", "{v<=x+1&v<=len a+1&v<=size l+1}int");
        due.types("qual array: v>=-*-2; input a: array; let rec f b = len b in 1", "array", "b:{v>=-len a-2}array->int", "{v>=-len a-2}array");
        due.sentence("type: numbers brought together (v < 007: v<7; v < * + 0: v<x; v <= * + 2 with 3 put for the NAME: v<=5)");
        due.types("qual int: v<007; qual int: v<*+0; qual int: v>*-0000; qual int: v>=-0; qual int: v>=-007; qual int: v=0000; let rec f x y = f x y in 1",
                "x:{v<7&v>=0&v>=-7&v=0}int->y:{v<7&v<x&v>x&v>=0&v>=-7&v=0}int->{v<7&v<x&v<y&v>x&v>y&v>=0&v>=-7&v=0}int",
                "{v<7&v>=0&v>=-7&v=0}int", "{v<7&v<x&v>x&v>=0&v>=-7&v=0}int");
        due.types("qual int: v<=*+2; let rec f x = x in let a=f 3 in let b=f (-2) in let c=f (-3) in let d=f (a) in let e=f (a-2) in let g=f (1-a) in 1",
                "x:int->{v<=x+2}int", "int", "{v<=5}int", "{v<=0}int", "{v<=-1}int", "{v<=a+2}int", "{v<=a}int", "{v<=-a+3}int");
        due.types("qual int: v<=-*-2; let rec f x = -x-3 in let a=f 3 in let b=f (-2) in let d=f (a) in let e=f (a-2) in let g=f (1-a) in let h=f (-a-1) in 1",
                "x:int->{v<=-x-2}int", "int", "{v<=-5}int", "{v<=0}int", "{v<=-a-2}int", "{v<=-a}int", "{v<=a-3}int", "{v<=a-1}int");
        due.types("let x=9999*9999 in let y=-9999*9999 in let z=9999+9999 in 1", "{v=99980001}int", "{v=-99980001}int", "{v=19998}int");
        due.sentence("type: Of what is let v = .. as of its E");
        due.types("input x: int; let y=x+0 in let z=-x-0 in let w=0-x in let a=new x-3 in let u=len a+10 in 1", "int", "{v=x}int", "{v=-x}int",
                "{v=-x}int", "{v=x-3}array", "{v=len a+10}int");
    }

    private static void typeOfFunctions(Due due) {
        due.sentence("type: a function: its parameter's NAME (of 'let rec' and 'fun' as told, others $0, $1, .. as they come in what is told), ':', "
                + "its type (in ( ) if that is a function's), '->', what it answers");
        due.types("let rec f x b a l = if b then len a else size l+x in 1", "x:int->b:bool->a:array->l:list->int", "int", "bool", "array", "list");
        due.types("let f=fun x -> fun y -> x+y in 1", "x:int->$0:int->int", "int", "int");
        due.types("let rec f g h x = let a=g x in h a in 1", "g:($0:int->int)->h:($1:int->int)->x:int->int", "$0:int->int", "$0:int->int", "int", "int");
        due.types("let rec f g = let a=g (fun x -> x+1) in a+1 in 1", "g:($0:($1:int->int)->int)->int", "$0:($1:int->int)->int", "int", "int");
        due.types("let rec f g = g 1 2 in let h=f in 1", "g:($0:int->$1:int->int)->int", "$0:int->$1:int->int", "g:($0:int->$1:int->int)->int");
        due.types("let rec f x y z = x+y+z in let g=f 1 in let h=g 2 in let i=(if true then h else h) in 1", "x:int->y:int->z:int->int", "int", "int",
                "int", "y:int->z:int->int", "z:int->int", "$0:int->int");
        due.types("let f=(let g=fun x -> x in g) in 1", "$0:int->int", "x:int->int", "int");
        due.types("qual int: v>=*; let rec f x = fun y -> fun z -> y in f 1 1 1", "x:int->$0:{v>=x}int->$1:{v>=x&v>=$0}int->{v>=x&v>=$0}int", "int",
                "{v>=x}int", "{v>=x&v>=y}int");
    }

    private static void out(Due due) {
        due.sentence("out: Byte i of the OUT; how many it has for i -1; otherwise -1");
        LiquidTongue tongue = new LiquidTongue();
        for (int i : new int[] {0, 1, -2, Integer.MIN_VALUE, Integer.MAX_VALUE}) {
            due.is("out(" + i + ") of none", tongue.out(i), -1);
        }
        due.is("out(-1) of none", tongue.out(-1), 0);
        Due.compile(tongue, "let b=true in let rec f x = x in 1");
        tongue.accepted();
        due.is("type(1)", tongue.type(1), 10);
        due.is("out(-1)", tongue.out(-1), 10);
        String text = "x:int->int";
        for (int i = 0; i < 10; i++) {
            due.is("out(" + i + ")", tongue.out(i), text.charAt(i));
        }
        due.is("type(0)", tongue.type(0), 4);
        due.is("out(-1)", tongue.out(-1), 4);
        due.is("out(0)", tongue.out(0), 'b');
        due.is("out(3)", tongue.out(3), 'l');
        for (int i : new int[] {4, 5, 9, 10, -2, 16000, Integer.MIN_VALUE, Integer.MAX_VALUE}) {
            due.is("out(" + i + ")", tongue.out(i), -1);
        }
    }

    private static void give(Due due) {
        due.sentence("give: INPUT i (from 0) becomes v: an int, a truth (0 or not)");
        LiquidTongue tongue = due.compiles("input x: int; input b: bool; if b then x else 77");
        for (int v : new int[] {0, 1, -1, 5, Integer.MAX_VALUE, Integer.MIN_VALUE}) {
            due.is("give(0, " + v + ")", tongue.give(0, v), true);
            due.is("give(1, " + v + ")", tongue.give(1, v), true);
            due.is("run(9)", tongue.run(9), 0);
            due.is("value() with " + v, tongue.value(), v == 0 ? 77 : v);
        }
        tongue = due.compiles("input b: bool; b");
        for (int v : new int[] {0, 1, -1, 2, 256, 65536, Integer.MAX_VALUE, Integer.MIN_VALUE}) {
            due.is("give(0, " + v + ")", tongue.give(0, v), true);
            due.is("run(9)", tongue.run(9), 0);
            due.is("value() of a truth " + v, tongue.value(), v == 0 ? 0 : 1);
        }
        due.sentence("give: an array of v elements (0 .. 1000), all 0: true");
        tongue = due.compiles("input a: array; a");
        for (int v : new int[] {0, 1, 999, 1000, 3, 0}) {
            due.is("give(0, " + v + ")", tongue.give(0, v), true);
            due.is("run(9)", tongue.run(9), 0);
            due.is("value()", tongue.value(), v);
        }
        tongue = due.compiles("input a: array; let x=a[0] in let y=a[1] in x+y");
        due.is("give(0, 2)", tongue.give(0, 2), true);
        due.is("element(0, 0, 3)", tongue.element(0, 0, 3), true);
        due.is("element(0, 1, 4)", tongue.element(0, 1, 4), true);
        due.is("run(9)", tongue.run(9), 0);
        due.is("value()", tongue.value(), 7);
        due.is("give(0, 2), all 0 again", tongue.give(0, 2), true);
        due.is("run(9)", tongue.run(9), 0);
        due.is("value()", tongue.value(), 0);
        due.is("element(0, 1, 4)", tongue.element(0, 1, 4), true);
        due.is("give(0, 1)", tongue.give(0, 1), true);
        due.is("give(0, 2), all 0 again", tongue.give(0, 2), true);
        due.is("run(9)", tongue.run(9), 0);
        due.is("value()", tongue.value(), 0);
    }

    private static void giveRefused(Due due) {
        due.sentence("give: false for others");
        LiquidTongue tongue = new LiquidTongue();
        due.is("give(0, 1) without a program", tongue.give(0, 1), false);
        Due.compile(tongue, "1");
        due.is("give(0, 1) without INPUTS", tongue.give(0, 1), false);
        due.is("give(-1, 1) without INPUTS", tongue.give(-1, 1), false);
        Due.compile(tongue, "input x: int; input a: array; let y=5 in if len a=0 then x else let z=a[0] in x+z+len a");
        due.is("give(0, 10)", tongue.give(0, 10), true);
        due.is("give(1, 3)", tongue.give(1, 3), true);
        due.is("element(1, 0, 100)", tongue.element(1, 0, 100), true);
        int[][] refused = {{2, 1}, {3, 1}, {-1, 1}, {Integer.MIN_VALUE, 1}, {Integer.MAX_VALUE, 1}, {6, 1}, {1, -1}, {1, 1001},
            {1, Integer.MIN_VALUE}, {1, Integer.MAX_VALUE}};
        for (int[] call : refused) {
            due.is("give(" + call[0] + ", " + call[1] + ")", tongue.give(call[0], call[1]), false);
            due.is("run(99)", tongue.run(99), 0);
            due.is("value(), all as it was", tongue.value(), 113);
        }
        StringBuilder six = new StringBuilder();
        for (int i = 0; i < 6; i++) {
            six.append("input x").append(i).append(": int;");
        }
        Due.compile(tongue, six + "x0-x5");
        due.is("give(5, 9)", tongue.give(5, 9), true);
        due.is("give(6, 9)", tongue.give(6, 9), false);
        due.is("run(9)", tongue.run(9), 0);
        due.is("value()", tongue.value(), -9);
    }

    private static void element(Due due) {
        due.sentence("element: Element k of INPUT i, an array, becomes v: true");
        LiquidTongue tongue = due.compiles("input k: int; input a: array; input b: array; a[k]");
        due.is("give(1, 1000)", tongue.give(1, 1000), true);
        due.is("give(2, 1000)", tongue.give(2, 1000), true);
        for (int k : new int[] {0, 1, 500, 998, 999}) {
            for (int v : new int[] {7, 0, Integer.MAX_VALUE, Integer.MIN_VALUE}) {
                due.is("element(1, " + k + ", " + v + ")", tongue.element(1, k, v), true);
                due.is("element(2, " + k + ", 3)", tongue.element(2, k, 3), true);
                due.is("give(0, " + k + ")", tongue.give(0, k), true);
                due.is("run(9)", tongue.run(9), 0);
                due.is("value()", tongue.value(), v);
            }
        }
        due.is("give(0, 2)", tongue.give(0, 2), true);
        due.is("run(9)", tongue.run(9), 0);
        due.is("value() of one that was not told", tongue.value(), 0);
    }

    private static void elementRefused(Due due) {
        due.sentence("element: false for others");
        LiquidTongue tongue = new LiquidTongue();
        due.is("element(0, 0, 1) without a program", tongue.element(0, 0, 1), false);
        Due.compile(tongue, "input x: int; input b: bool; input a: array; let y=a[0] in let z=a[2] in y+z+x+len a");
        due.is("element(2, 0, 1) of none", tongue.element(2, 0, 1), false);
        due.is("give(0, 9)", tongue.give(0, 9), true);
        due.is("give(2, 3)", tongue.give(2, 3), true);
        due.is("element(2, 0, 100)", tongue.element(2, 0, 100), true);
        due.is("element(2, 2, 1000)", tongue.element(2, 2, 1000), true);
        int[][] refused = {{2, 3}, {2, -1}, {2, 1000}, {2, Integer.MAX_VALUE}, {2, Integer.MIN_VALUE}, {0, 0}, {1, 0}, {3, 0}, {-1, 0}, {6, 0},
            {Integer.MAX_VALUE, 0}, {Integer.MIN_VALUE, 0}};
        for (int[] call : refused) {
            due.is("element(" + call[0] + ", " + call[1] + ", 55)", tongue.element(call[0], call[1], 55), false);
            due.is("run(9)", tongue.run(9), 0);
            due.is("value(), all as it was", tongue.value(), 1112);
        }
        due.is("give(2, 2)", tongue.give(2, 2), true);
        due.is("element(2, 2, 1)", tongue.element(2, 2, 1), false);
        due.is("element(2, 1, 1)", tongue.element(2, 1, 1), true);
        due.is("give(2, 0)", tongue.give(2, 0), true);
        due.is("element(2, 0, 1)", tongue.element(2, 0, 1), false);
    }

    private static void run(Due due) {
        due.sentence("run: (0 .. 20000; others and no program: -1): 0 it ends well, else how it ends");
        LiquidTongue tongue = new LiquidTongue();
        for (int fuel : new int[] {-1, 0, 1, 20000, 20001}) {
            due.is("run(" + fuel + ") without a program", tongue.run(fuel), -1);
        }
        Due.compile(tongue, "input x: int; (x)");
        due.is("give(0, 3)", tongue.give(0, 3), true);
        due.is("run(2)", tongue.run(2), 0);
        for (int fuel : new int[] {-1, 20001, Integer.MAX_VALUE, Integer.MIN_VALUE}) {
            due.is("run(" + fuel + ")", tongue.run(fuel), -1);
            due.is("value() of the latest run", tongue.value(), 3);
            due.is("fuel() of the latest run", tongue.fuel(), 2);
        }
        due.is("run(20000)", tongue.run(20000), 0);
        due.is("run(1)", tongue.run(1), 1);
        due.is("run(0)", tongue.run(0), 1);
        String[] texts = {"1", "(1)", "new 1001", "assert 1=2; 1", "1/0", "let a=new 1 in a[1]", "new -1"};
        int[] ends = {0, 1, 2, 3, 4, 5, 6};
        for (int i = 0; i < texts.length; i++) {
            due.is("compile()", Due.compile(tongue, texts[i]), 0);
            due.is("run of " + texts[i], tongue.run(i == 1 ? 1 : 20000), ends[i]);
        }
    }

    private static void givenStays(Due due) {
        due.sentence("run: (arrays that were given stay as they are given)");
        LiquidTongue tongue = due.compiles("input a: array; input b: array; let x=a[1] in set a[1]=x+1; set b[0]=x; let c=a in set c[0]=9; let y=a[1] in "
                + "let z=b[1] in x+y+z");
        due.is("give(0, 2)", tongue.give(0, 2), true);
        due.is("give(1, 2)", tongue.give(1, 2), true);
        due.is("element(0, 1, 20)", tongue.element(0, 1, 20), true);
        due.is("element(1, 1, 300)", tongue.element(1, 1, 300), true);
        for (int i = 0; i < 4; i++) {
            due.is("run(99)", tongue.run(99), 0);
            due.is("value()", tongue.value(), 341);
        }
        due.is("run(5), which ends by 1 behind the first set", tongue.run(5), 1);
        due.is("run(99)", tongue.run(99), 0);
        due.is("value()", tongue.value(), 341);
        due.is("element(0, 1, 21)", tongue.element(0, 1, 21), true);
        due.is("run(99)", tongue.run(99), 0);
        due.is("value()", tongue.value(), 343);
    }

    private static void value(Due due) {
        due.sentence("value: What the latest run gave, if it ended well: a number, 0 or 1, an array's length, a list's size, 0 for a function");
        due.gives("-5", -5);
        due.gives("true", 1);
        due.gives("false", 0);
        due.gives("let b=true in b", 1);
        due.gives("new 0", 0);
        due.gives("new 7", 7);
        due.gives("nil", 0);
        due.gives("let l=nil in let m=cons 9 l in let n=cons 9 m in cons 9 n", 3);
        due.gives("let l=nil in let m=cons 9 l in let n=cons 9 m in match n with nil -> nil; x t -> t", 1);
        due.gives("fun x -> 5", 0);
        due.gives("let rec f x y = 5 in f 1", 0);
        due.gives("let rec f x y = 5 in f", 0);
        due.sentence("value: 0 if it did not, without one, and behind compile()");
        LiquidTongue tongue = new LiquidTongue();
        due.is("value() without one", tongue.value(), 0);
        Due.compile(tongue, "input x: int; let y=10/x in 6");
        due.is("value() before a run", tongue.value(), 0);
        due.is("run(9)", tongue.run(9), 4);
        due.is("value()", tongue.value(), 0);
        tongue.give(0, 1);
        due.is("value() behind give", tongue.value(), 0);
        due.is("run(9)", tongue.run(9), 0);
        due.is("value()", tongue.value(), 6);
        tongue.accepted();
        tongue.type(0);
        tongue.give(0, 0);
        due.is("value() behind others", tongue.value(), 6);
        due.is("run(2)", tongue.run(2), 4);
        due.is("value() of one that did not end well", tongue.value(), 0);
        tongue.give(0, 1);
        tongue.run(9);
        due.is("value()", tongue.value(), 6);
        due.is("run(1)", tongue.run(1), 1);
        due.is("value() of one without FUEL", tongue.value(), 0);
        tongue.run(9);
        Due.compile(tongue, "7");
        due.is("value() behind compile()", tongue.value(), 0);
        tongue.run(9);
        due.is("value()", tongue.value(), 7);
        Due.compile(tongue, "7+");
        due.is("value() behind compile() of a FAULT", tongue.value(), 0);
    }

    private static void fuel(Due due) {
        due.sentence("fuel: FUEL that the latest run took, also behind compile(); 0 before any");
        LiquidTongue tongue = new LiquidTongue();
        due.is("fuel()", tongue.fuel(), 0);
        due.is("run(5) without a program", tongue.run(5), -1);
        due.is("fuel()", tongue.fuel(), 0);
        Due.compile(tongue, "(((1)))");
        due.is("fuel() before any run", tongue.fuel(), 0);
        due.is("run(20001)", tongue.run(20001), -1);
        due.is("fuel()", tongue.fuel(), 0);
        due.is("run(20000)", tongue.run(20000), 0);
        due.is("fuel()", tongue.fuel(), 4);
        due.is("run(3)", tongue.run(3), 1);
        due.is("fuel() of one that ended by 1", tongue.fuel(), 3);
        due.is("run(-1)", tongue.run(-1), -1);
        due.is("fuel()", tongue.fuel(), 3);
        Due.compile(tongue, "1");
        due.is("fuel() behind compile()", tongue.fuel(), 3);
        Due.compile(tongue, "1+");
        due.is("fuel() behind a FAULT", tongue.fuel(), 3);
        due.is("run(9)", tongue.run(9), -1);
        due.is("fuel()", tongue.fuel(), 3);
        Due.compile(tongue, "1");
        due.is("run(0)", tongue.run(0), 1);
        due.is("fuel() of one that took none", tongue.fuel(), 0);
    }

    private static void manyCalls(Due due) {
        due.sentence("An object is used for at most 512 calls after it has been made");
        LiquidTongue tongue = new LiquidTongue();
        int calls = 0;
        for (int i = 0; calls + 8 <= 512; i++) {
            int one = number("let ");
            due.is("feed", tongue.feed(one, number("x=" + (10 + i % 90)), number(" in "), number("10/x"), BLANKS), true);
            due.is("end(16)", tongue.end(16), true);
            due.is("compile()", tongue.compile(), 0);
            due.is("accepted()", tongue.accepted(), 1);
            due.is("type(0)", tongue.type(0), 9);
            due.is("run(20000)", tongue.run(20000), 0);
            due.is("value()", tongue.value(), 10 / (10 + i % 90));
            due.is("fuel()", tongue.fuel(), 3);
            calls += 8;
        }
    }
}
