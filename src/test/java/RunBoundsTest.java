/** Part IV of the document, sentence by sentence: how runs end, at the last number that is taken and the first that is not. */
public final class RunBoundsTest {
    /** 2^40 is 1024 * 1024 * 1024 * 1024. */
    private static final String EDGE = "let x=1024*1024 in let y=x*x in ";
    private static final long MOST = 1L << 40;

    public static void main(String[] args) {
        Due due = new Due("RunBoundsTest");
        fuelOfEach(due);
        fuelThatEnds(due);
        mostFuel(due);
        bigSums(due);
        bigProducts(due);
        bigEverywhere(due);
        arrayLengths(due);
        elementsInAll(due);
        deepCalls(due);
        callsThatEnded(due);
        asserts(due);
        divisions(due);
        bounds(due);
        orderOfText(due);
        asFarAsNeeded(due);
        callsInOrder(due);
        due.close();
    }

    /** The text takes this FUEL: with it the run ends well, with 1 less it ends by 1 and has taken all. */
    private static void takes(Due due, String text, int fuel, int... inputs) {
        LiquidTongue tongue = new LiquidTongue();
        due.is("compile() of " + text, Due.compile(tongue, text), 0);
        for (int i = 0; i < inputs.length; i++) {
            due.is("give(" + i + ", " + inputs[i] + ")", tongue.give(i, inputs[i]), true);
        }
        due.is("run(20000) of " + text, tongue.run(20000), 0);
        due.is("fuel() of " + text, tongue.fuel(), fuel);
        due.is("run(" + fuel + ") of " + text, tongue.run(fuel), 0);
        due.is("fuel() of " + text, tongue.fuel(), fuel);
        due.is("run(" + (fuel - 1) + ") of " + text, tongue.run(fuel - 1), 1);
        due.is("value() of " + text, tongue.value(), 0);
        due.is("fuel() of " + text, tongue.fuel(), fuel - 1);
    }

    private static void fuelOfEach(Due due) {
        due.sentence("FUEL: each E that is begun takes 1 (also an ARG that is a fun, not other S, C)");
        String[] ones = {"1", "true", "false", "nil", "new 3", "1+2-3", "2*3", "7/2", "7%2", "fun x -> x"};
        for (String one : ones) {
            takes(due, one, 1);
            takes(due, "(" + one + ")", 2);
            takes(due, "let y=" + one + " in 1", 3);
        }
        takes(due, "input x: int; x", 1, 5);
        takes(due, "input a: array; a[0]", 1, 1);
        takes(due, "input a: array; len a", 1, 1);
        takes(due, "input a: array; set a[0]=1+2; 1", 2, 1);
        takes(due, "assert 1<2 && not (3<2); 1", 2);
        takes(due, "if 1<2 then 1 else (((2)))", 2);
        takes(due, "if 1>2 then (((1))) else 2", 2);
        takes(due, "let l=nil in cons 1 l", 3);
        takes(due, "let l=nil in match l with nil -> 1; x t -> ((2))", 4);
        takes(due, "let l=nil in let m=cons 1 l in match m with nil -> ((1)); x t -> 2", 6);
        takes(due, "let rec f x = ((1)) in 2", 2);
        takes(due, "let rec f x = ((1)) in f 2", 5);
        takes(due, "let rec f x = ((1)) in f (1+1)", 5);
        takes(due, "let rec f x y = 1 in f 2", 2);
        takes(due, "let rec f x y = 1 in f 2 true", 3);
        takes(due, "let rec f x y = 1 in let g=f 2 in g 3", 5);
        takes(due, "let rec f g = 1 in f (fun x -> ((x)))", 4);
        takes(due, "let rec f g h = 1 in f (fun x -> x) (fun x -> x)", 5);
        takes(due, "let rec f g = g 1 in f (fun x -> (x))", 6);
        takes(due, "let f=fun x -> fun y -> 1 in f 1 2", 5);
    }

    private static void fuelThatEnds(Due due) {
        due.sentence("what has none left ends by 1");
        due.run("1", 0, 1, 0, 0);
        due.run("let x=10/0 in 1", 1, 1, 0, 1);
        due.run("let x=10/0 in 1", 2, 4, 0, 2);
        due.run("assert 1=2; 1", 0, 1, 0, 0);
        due.run("assert 1=2; 1", 1, 3, 0, 1);
        due.run("let rec f x = f x in f 1", 30, 1, 0, 30);
        due.run("let rec f g = 1 in f (fun x -> x)", 2, 1, 0, 2);
        due.run("let rec f g = 1 in f (fun x -> x)", 3, 1, 0, 3);
        due.run("let rec f g = 1 in f (fun x -> x)", 4, 0, 1, 4);
    }

    private static void mostFuel(Due due) {
        due.sentence("The program runs with so much FUEL (0 .. 20000; others: -1)");
        // f n takes 6 * 2^n - 4 for its own E; a let with a call of it 2 more.
        String loop = "let rec f n = if n<=0 then 0 else let a=f (n-1) in f (n-1) in let b=f 11 in let c=f 10 in let d=f 7 in let e=f 7 in "
                + "let g=f 2 in let h=f 1 in let i=f 0 in ((1))";
        due.run(loop, 20000, 0, 1, 20000);
        due.run(loop, 19999, 1, 0, 19999);
        due.run(loop.replace("((1))", "(((1)))"), 20000, 1, 0, 20000);
        LiquidTongue tongue = due.compiles(loop);
        due.is("run(20001)", tongue.run(20001), -1);
        due.is("run(-1)", tongue.run(-1), -1);
        due.is("run(MIN)", tongue.run(Integer.MIN_VALUE), -1);
        due.is("run(MAX)", tongue.run(Integer.MAX_VALUE), -1);
        due.is("fuel()", tongue.fuel(), 0);
        due.is("run(0)", tongue.run(0), 1);
    }

    private static void bigSums(Due due) {
        due.sentence("Numbers beyond 2^40 either way (of an S, when all of it is added) end by 2");
        due.gives(EDGE + "y", MOST);
        due.gives(EDGE + "y+0", MOST);
        due.run(EDGE + "y+1", 99, 2, 0, 5);
        due.gives(EDGE + "-y", -MOST);
        due.run(EDGE + "-y-1", 99, 2, 0, 5);
        due.gives(EDGE + "y+1-1", MOST);
        due.gives(EDGE + "y+y-y", MOST);
        due.gives(EDGE + "y+y+y-y-y", MOST);
        due.gives(EDGE + "-y-y+y", -MOST);
        due.gives(EDGE + "y-y", 0);
        due.gives(EDGE + "let z=y-1 in z+1", MOST);
        due.run(EDGE + "let z=y-1 in z+2", 99, 2, 0, 7);
        due.gives(EDGE + "let z=1-y in z-1", -MOST);
        due.run(EDGE + "let z=1-y in z-2", 99, 2, 0, 7);
        due.run(EDGE + "y+x", 99, 2, 0, 5);
        due.run(EDGE + Due.times("y+", 200) + "y", 99, 2, 0, 5);
    }

    private static void bigProducts(Due due) {
        due.sentence("Numbers beyond 2^40 either way (of S * S) end by 2");
        due.gives(EDGE + "x*x", MOST);
        due.gives(EDGE + "-x*x", -MOST);
        due.gives(EDGE + "x*-x", -MOST);
        due.gives(EDGE + "-x*-x", MOST);
        due.run(EDGE + "x*x+1", 99, 2, 0, 5);
        due.run(EDGE + "x+1*x", 99, 2, 0, 5);
        due.run(EDGE + "-x*x+1", 99, 2, 0, 5);
        due.run(EDGE + "-x-1*-x", 99, 2, 0, 5);
        due.gives(EDGE + "x-1*x+1", MOST - 1);
        due.gives(EDGE + "y*1", MOST);
        due.gives(EDGE + "1*y", MOST);
        due.gives(EDGE + "y*-1", -MOST);
        due.gives(EDGE + "y*0", 0);
        due.gives(EDGE + "0*y", 0);
        due.run(EDGE + "y*2", 99, 2, 0, 5);
        due.run(EDGE + "y*-2", 99, 2, 0, 5);
        due.run(EDGE + "y*y", 99, 2, 0, 5);
        due.run(EDGE + "-y*y", 99, 2, 0, 5);
        due.run("input x: int; x*512", 99, 0, -MOST, 1, Integer.MIN_VALUE);
        due.run("input x: int; x*513", 99, 2, 0, 1, Integer.MIN_VALUE);
        due.run("input x: int; x*x", 99, 2, 0, 1, Integer.MIN_VALUE);
        due.run("input x: int; x*x", 99, 2, 0, 1, Integer.MAX_VALUE);
        due.gives(EDGE + "y/1", MOST);
        due.gives(EDGE + "-y/-1", MOST);
        due.gives(EDGE + "y/-1", -MOST);
        due.gives(EDGE + "-y%y", 0);
        due.gives(EDGE + "-1%y", MOST - 1);
        due.gives(EDGE + "-1/y", -1);
    }

    private static void bigEverywhere(Due due) {
        due.sentence("Numbers beyond 2^40 either way (of an S): wherever an S stands");
        String[] texts = {"y+?", "y+?*0", "0*y+?", "y+?/1", "1/y+?", "y+?%2", "1%y+?", "set a[0]=y+?; 1", "if y+?>0 then 1 else 1",
            "if 0<y+? then 1 else 1", "if 0#-y-? then 1 else 1", "assert not (0>y+?); 1", "cons y+? l", "f (y+?)", "f (-y-?)", "f 1 (y+?)"};
        for (String text : texts) {
            LiquidTongue tongue = new LiquidTongue();
            String before = EDGE + "let a=new 1 in let l=nil in let rec f p q = 1 in ";
            due.is("compile() of " + text, Due.compile(tongue, before + text.replace("?", "0")), 0);
            due.is("run(99) of " + text, tongue.run(99), 0);
            due.is("compile() of " + text, Due.compile(tongue, before + text.replace("?", "1")), 0);
            due.is("run(99) of " + text, tongue.run(99), 2);
            due.is("value()", tongue.value(), 0);
        }
        due.run(EDGE + "new y+1", 99, 2, 0, 5);
        due.run(EDGE + "new -y-1", 99, 2, 0, 5);
        due.run(EDGE + "new -y", 99, 6, 0, 5);
        due.run(EDGE + "let a=new 1 in a[y+1]", 99, 2, 0, 7);
        due.run(EDGE + "let a=new 1 in a[y]", 99, 5, 0, 7);
        due.run(EDGE + "let a=new 1 in set a[-y-1]=1; 1", 99, 2, 0, 7);
        due.run(EDGE + "let a=new 1 in set a[-y]=1; 1", 99, 5, 0, 7);
        due.gives(EDGE + "let a=new 1 in set a[0]=-y; a[0]", -MOST);
    }

    private static void arrayLengths(Due due) {
        due.sentence("new n: n elements, 0 all, in each run");
        LiquidTongue tongue = due.compiles("let a=new 3 in let x=a[0] in let y=a[1] in let z=a[2] in set a[0]=5; set a[1]=6; set a[2]=7; x+y+z");
        for (int i = 0; i < 3; i++) {
            due.is("run(99)", tongue.run(99), 0);
            due.is("value()", tongue.value(), 0);
        }
        due.sentence("arrays of more than 1000 elements end by 2; 6 new of less than 0");
        due.run("new 0", 9, 0, 0, 1);
        due.run("new 1", 9, 0, 1, 1);
        due.run("new 1000", 9, 0, 1000, 1);
        due.run("new 1001", 9, 2, 0, 1);
        due.run("new 9999", 9, 2, 0, 1);
        due.run("new -1", 9, 6, 0, 1);
        due.run("new -1001", 9, 6, 0, 1);
        due.run("input n: int; new n", 9, 6, 0, 1, Integer.MIN_VALUE);
        due.run("input n: int; new n", 9, 2, 0, 1, Integer.MAX_VALUE);
    }

    private static void elementsInAll(Due due) {
        due.sentence("and more than 10000 elements in all, too (INPUTS' arrays count, too)");
        String many = "let rec f n = if n<=0 then 1 else let a=new 1000 in f (n-1) in ";
        due.gives(many + "f 10", 1);
        due.run(many + "f 11", 999, 2, 0, 45);
        due.gives(many + "let x=f 10 in new 0", 0);
        due.run(many + "let x=f 10 in new 1", 999, 2, 0, 46);
        due.gives(many + "let x=f 9 in new 1000", 1000);
        due.gives(many + "let x=f 9 in let a=new 999 in new 1", 1);
        due.run(many + "let x=f 9 in let a=new 999 in new 2", 999, 2, 0, 44);
        due.run(many + "let x=f 9 in let a=new 1 in new 1000", 999, 2, 0, 44);
        String inputs = "input c: array; input d: array; ";
        due.gives(inputs + many + "let x=f 8 in new 0", 0, 1000, 1000);
        due.run(inputs + many + "let x=f 8 in new 1", 999, 2, 0, 38, 1000, 1000);
        due.gives(inputs + many + "let x=f 9 in new 1", 1, 998, 1);
        due.run(inputs + many + "let x=f 9 in new 2", 999, 2, 0, 42, 998, 1);
        due.run(inputs + many + "let x=f 9 in new 1", 999, 2, 0, 42, 998, 2);
        // A run of its own each time: what an earlier one made is gone.
        LiquidTongue tongue = due.compiles(many + "f 10");
        for (int i = 0; i < 5; i++) {
            due.is("run(999) again", tongue.run(999), 0);
        }
    }

    private static void deepCalls(Due due) {
        due.sentence("calls more than 50 deep (of functions whose E is done and not yet ended) likewise");
        String sum = "input k: int; let rec sum n = if n<=0 then 0 else let s=sum (n-1) in s+n in sum k";
        due.run(sum, 20000, 0, 1225, 2 + 49 * 4 + 2, 49);
        due.run(sum, 20000, 2, 0, 2 + 50 * 3, 50);
        due.run(sum, 20000, 2, 0, 2 + 50 * 3, 51);
        String last = "input k: int; let rec loop n = if n<=0 then 7 else loop (n-1) in loop k";
        due.run(last, 20000, 0, 7, 102, 49);
        due.run(last, 20000, 2, 0, 102, 50);
        String odd = "input k: int; let rec f g n = if n<=0 then 7 else g n in let rec h n = f (fun m -> h (m-1)) n in h k";
        // Each round has three calls open: h, f and what f was given.
        due.run(odd, 20000, 0, 7, 3 + 16 * 5 + 4, 16);
        due.run(odd, 20000, 2, 0, 3 + 16 * 5 + 4, 17);
        due.run("let f=fun x -> x in let rec loop n = if n<=0 then f 7 else loop (n-1) in loop 48", 20000, 0, 7, 3 + 1 + 48 * 2 + 3);
        due.run("let f=fun x -> x in let rec loop n = if n<=0 then f 7 else loop (n-1) in loop 49", 20000, 2, 0, 3 + 1 + 49 * 2 + 2);
        // A function that has not all its ARGS is not done yet.
        due.run("let rec f x y = x in let rec loop n = if n<=0 then f 7 else loop (n-1) in loop 49", 20000, 0, 0, 2 + 1 + 49 * 2 + 2);
    }

    private static void callsThatEnded(Due due) {
        due.sentence("(of functions whose E is done and not yet ended): no more than 30 parts of each wait");
        String deep = "if n<=0 then 1 else " + Due.times("let x=", 28) + "f (n-1)" + Due.times(" in x", 28);
        due.gives("let rec f n = " + deep + " in f 49", 1);
        due.run("let rec f n = " + deep + " in f 50", 20000, 2, 0, 2 + 50 * 30);
        due.sentence("(of functions whose E is done and not yet ended): calls one behind the other are not deep");
        due.gives("let rec f x = x+1 in let rec five y = let a=f y in let b=f a in let c=f b in let d=f c in f d in let rec ten y = let a=five y in "
                + "five a in let rec thirty y = let a=ten y in let b=ten a in ten b in let a=thirty 0 in thirty a", 60);
        due.gives("let rec f n = if n<=0 then 1 else let a=f (n-1) in let b=f (n-1) in a+b in f 11", 2048);
        LiquidTongue tongue = due.compiles("input k: int; let rec sum n = if n<=0 then 0 else let s=sum (n-1) in s+n in sum k");
        for (int i = 0; i < 3; i++) {
            tongue.give(0, 50);
            due.is("run(20000), 51 deep", tongue.run(20000), 2);
            due.is("run(100), that ends in a call", tongue.run(100), 1);
            tongue.give(0, 49);
            due.is("run(20000), 50 deep, whatever was open when another ended", tongue.run(20000), 0);
            due.is("value()", tongue.value(), 1225);
        }
        due.gives("let rec f n = fun m -> n+m in let rec g n = if n<=0 then 0 else let a=f n 1 in let b=g (n-1) in a+b in g 48", 48 * 49 / 2 + 48);
    }

    private static void asserts(Due due) {
        due.sentence("assert: C not true ends by 3");
        due.run("assert false; 1", 9, 3, 0, 1);
        due.run("assert true; 1", 9, 0, 1, 2);
        due.run("input x: int; assert x>=0; x", 9, 0, 0, 2, 0);
        due.run("input x: int; assert x>=0; x", 9, 3, 0, 1, -1);
        due.run("input x: int; assert x#3; assert x#4; x", 9, 3, 0, 1, 3);
        due.run("input x: int; assert x#3; assert x#4; x", 9, 3, 0, 2, 4);
        String[] relations = {"=", "<", "<=", ">", ">=", "#"};
        for (int x = -1; x <= 1; x++) {
            boolean[] holds = {x == 0, x < 0, x <= 0, x > 0, x >= 0, x != 0};
            for (int i = 0; i < relations.length; i++) {
                due.run("input x: int; assert x" + relations[i] + "0; 5", 9, holds[i] ? 0 : 3, holds[i] ? 5 : 0, holds[i] ? 2 : 1, x);
            }
        }
    }

    private static void divisions(Due due) {
        due.sentence("4 division by 0");
        due.run("input x: int; 5/x", 9, 4, 0, 1, 0);
        due.run("input x: int; 5%x", 9, 4, 0, 1, 0);
        due.run("input x: int; 0/x", 9, 4, 0, 1, 0);
        due.run("input x: int; 5/x", 9, 0, 5, 1, 1);
        due.run("input x: int; 5/x", 9, 0, -5, 1, -1);
        due.run("input x: int; 5/x-x", 9, 4, 0, 1, 7);
        due.run("input x: int; 0%x", 9, 0, 0, 1, 7);
    }

    private static void bounds(Due due) {
        due.sentence("5 beyond an array");
        for (String form : new String[] {"a[i]", "set a[i]=1; 0"}) {
            String text = "input a: array; input i: int; " + form;
            int took = form.startsWith("set") ? 2 : 1;
            due.run(text, 9, 0, 0, took, 3, 0);
            due.run(text, 9, 0, 0, took, 3, 2);
            due.run(text, 9, 5, 0, 1, 3, 3);
            due.run(text, 9, 5, 0, 1, 3, -1);
            due.run(text, 9, 5, 0, 1, 0, 0);
            due.run(text, 9, 0, 0, took, 1000, 999);
            due.run(text, 9, 5, 0, 1, 1000, 1000);
            due.run(text, 9, 5, 0, 1, 1000, Integer.MAX_VALUE);
            due.run(text, 9, 5, 0, 1, 1000, Integer.MIN_VALUE);
        }
    }

    private static void orderOfText(Due due) {
        due.sentence("All in the order of the text (an array's bounds behind the index, ahead of a value that is set)");
        String some = EDGE + "let a=new 1 in ";
        due.run(some + "a[y+1]", 99, 2, 0, 7);
        due.run(some + "set a[y+1]=1; 10/0", 99, 2, 0, 7);
        due.run(some + "set a[1]=y+1; 1", 99, 5, 0, 7);
        due.run(some + "set a[-1]=y+1; 1", 99, 5, 0, 7);
        due.run(some + "set a[0]=y+1; 1", 99, 2, 0, 7);
        due.run(some + "set a[0]=1; 10/0", 99, 4, 0, 8);
        due.run(EDGE + "y+1/0", 99, 2, 0, 5);
        due.run(EDGE + "1/y+1", 99, 2, 0, 5);
        due.run(EDGE + "y+1*0", 99, 2, 0, 5);
        due.run(EDGE + "assert y+1<0; 1", 99, 2, 0, 5);
        due.run(EDGE + "assert 1<0; y+1", 99, 3, 0, 5);
        due.run(EDGE + "let z=10/0 in assert false; y+1", 99, 4, 0, 6);
        due.run(EDGE + "let z=(assert false; 10/0) in y+1", 99, 3, 0, 7);
        due.run(EDGE + "if y+1>0 then 10/0 else 1", 99, 2, 0, 5);
        due.run("if true then 10/0 else assert false; 1", 99, 4, 0, 2);
        due.run("if false then 10/0 else assert false; 1", 99, 3, 0, 2);
        due.run("let a=new 1 in set a[0]=5; let x=a[0] in set a[0]=7; let y=a[0] in x-y", 99, 0, -2, 9);
    }

    private static void asFarAsNeeded(Due due) {
        due.sentence("C's && and || only as far as needed");
        String[] taken = {"1=1 || y+1>0", "not (1=2 && y+1>0)", "1=1 || 1=1 && y+1>0", "(1=2 || 1=1) || y+1>0", "1=2 && y+1>0 || 1=1"};
        for (String c : taken) {
            due.run(EDGE + "if " + c + " then 3 else 4", 99, 0, 3, 6);
            due.run(EDGE + "assert " + c + "; 3", 99, 0, 3, 6);
        }
        String[] needed = {"1=2 || y+1>0", "1=1 && y+1>0", "y+1>0 || 1=1", "y+1>0 && 1=2", "not (1=1 && y+1>0)", "not (y+1>0)",
            "1=2 || 1=1 && y+1>0", "1=2 && 1=1 || y+1>0", "1=1 && (1=2 || y+1>0)"};
        for (String c : needed) {
            due.run(EDGE + "if " + c + " then 3 else 4", 99, 2, 0, 5);
            due.run(EDGE + "assert " + c + "; 3", 99, 2, 0, 5);
        }
    }

    private static void callsInOrder(Due due) {
        due.sentence("a call: all ARGS, then as far as it has them");
        due.run(EDGE + "let rec f p = fun q -> 10/0 in f 1 (y+1)", 99, 2, 0, 6);
        due.run(EDGE + "let rec f p = 10/0 in let rec g p q = 1 in g (y+1) 2", 99, 2, 0, 7);
        due.run("let rec f p = assert p>0; fun q -> 10/q in f 0 0", 99, 3, 0, 3);
        due.run("let rec f p = assert p>0; fun q -> 10/q in f 1 0", 99, 4, 0, 5);
        due.run("let rec f p = assert p>0; fun q -> 10/q in f 1 5", 99, 0, 2, 5);
        due.run("let rec f p = assert p>0; fun q -> 10/q in f 1", 99, 0, 0, 4);
        due.run("let rec f p q = assert p>0; 10/q in f 0", 99, 0, 0, 2);
        due.run("let rec f p q = assert p>0; 10/q in f 0 0", 99, 3, 0, 3);
        due.run("let rec f p q = 10/0 in let g=f 1 in 5", 99, 0, 5, 4);
        due.run(EDGE + "let rec f g q = 1 in f (fun z -> z) (y+1)", 99, 2, 0, 7);
        due.run(EDGE + "let rec f q g = 1 in f (y+1) (fun z -> z)", 99, 2, 0, 6);
        due.run(EDGE + "let rec f g q = 1 in f (fun z -> z) (y+1)", 6, 1, 0, 6);
        due.run(EDGE + "let rec f q g = 1 in f (y+1) (fun z -> z)", 6, 2, 0, 6);
        due.run("let f=fun a -> fun b -> fun c -> fun d -> a-b-c-d in f 9 1 2 3", 99, 0, 3, 7);
        due.run("let f=fun a -> fun b -> fun c -> fun d -> a-b-c-d in let g=f 9 1 in g 2 3", 99, 0, 3, 9);
    }
}
