/** Promises 4 and 6: what compile() answers for a text, and the place of its FAULT. */
public final class FaultTest {
    public static void main(String[] args) {
        Due due = new Due("FaultTest");
        words(due);
        grammar(due);
        limits(due);
        depth(due);
        names(due);
        types(due);
        calls(due);
        forms(due);
        conditions(due);
        templates(due);
        order(due);
        program(due);
        due.close();
    }

    private static void words(Due due) {
        due.fault(1, "1 + @$");
        due.fault(1, "1 +@\t2");
        due.fault(1, "@X");
        due.fault(1, "@_x");
        due.fault(1, "1 @& 2");
        due.fault(1, "if true && true @| true then 1 else 2");
        due.fault(1, "@12345");
        due.fault(1, "let @abcdefghijk=1 in 2");
        due.fault(1, "1@\0");
        due.judged("let abcdefghij=1 in let v_1a=9999 in abcdefghij+0007");
        due.judged("let\nx=1\nin(x)");
        due.fault(2, "12@b");
        due.fault(2, "1@,");
        due.fault(2, "let @v=1 in 2");
        due.fault(2, "let a@->b in 2");
        due.judged("if 1<-1 then 1 else 2");
    }

    private static void grammar(Due due) {
        due.fault(2, "@");
        due.fault(2, "  @");
        due.fault(2, "let x=1 in@");
        due.fault(2, "let x=1 in @in");
        due.fault(2, "let x @1 in x");
        due.fault(2, "let rec f @= 1 in 2");
        due.fault(2, "let rec f a b c d @e = 1 in 2");
        due.fault(2, "1 @1");
        due.fault(2, "1 - @- 1");
        due.fault(2, "let x=1 in x * x @* x");
        due.fault(2, "let x=1 in (x)@+1");
        due.fault(2, "let x=1 in x @< 2");
        due.fault(2, "if 1 @then 2 else 3");
        due.fault(2, "let b=true in if b @b then 2 else 3");
        due.fault(2, "let b=true in if -b @then 2 else 3");
        due.fault(2, "if (1@) then 2 else 3");
        due.fault(2, "if true @= true then 2 else 3");
        due.fault(2, "let rec f a = 1 in f (@true)");
        due.fault(2, "let rec f a = 1 in f (1 @2)");
        due.fault(2, "let rec f a = 1 in f @nil");
        due.fault(2, "let rec f a b c d = 1 in f 1 2 3 4 @5");
        due.fault(2, "cons 1 @nil");
        due.fault(2, "let l=nil in match l with nil -> 1; x @-> 2");
        due.fault(2, "qual int: v @# 1; 1");
        due.fault(2, "qual @bool: v < 1; 1");
        due.fault(2, "qual int: @x < 1; 1");
        due.fault(2, "qual int: v < * + @*; 1");
        due.fault(2, "qual int: v < * @1; 1");
        due.fault(2, "input x: @list; 1");
        due.fault(2, "input x: int; @qual int: v < 1; 1");
        due.fault(2, "let a=new 1 in a[0]@[0]");
        due.judged("let a=new 1 in set a[0]=- 3 + len a; assert not (1 > 2 || false) && true; a[0]");
    }

    private static void limits(Due due) {
        String qual = "qual int: v >= - * + 3;";
        due.judged(Due.times(qual, 6) + "1");
        due.fault(2, Due.times(qual, 6) + "@" + qual + "1");
        StringBuilder inputs = new StringBuilder();
        for (int i = 0; i < 6; i++) {
            inputs.append("input x").append(i).append(": bool;");
        }
        due.judged(inputs + "1");
        due.fault(2, inputs + "@input y: int;1");
    }

    private static void depth(Due due) {
        due.judged(Due.times("(", 30) + "1" + Due.times(")", 30));
        due.fault(2, Due.times("(", 31) + "@1" + Due.times(")", 31));
        due.fault(2, Due.times("(", 31) + "@" + Due.times("(", 500));
        String not = Due.times("not ", 29);
        due.judged("if " + not + "not true then 1 else 2");
        due.fault(2, "if " + not + "not not @true then 1 else 2");
        due.fault(2, "if " + Due.times("(", 31) + "@true" + Due.times(")", 31) + " then 1 else 2");
        due.judged("if " + Due.times("(", 30) + "true" + Due.times(")", 30) + " then 1 else 2");
        // The C of an E has that E's depth.
        due.judged(Due.times("(", 29) + "if not true then 1 else 2" + Due.times(")", 29));
        due.fault(2, Due.times("(", 29) + "if not not @true then 1 else 2" + Due.times(")", 29));
        String rec = "let rec f g = 1 in ";
        due.judged(rec + Due.times("(", 27) + "f (fun x -> x)" + Due.times(")", 27));
        due.fault(2, rec + Due.times("(", 28) + "f (fun x -> @x)" + Due.times(")", 28));
        due.fault(2, rec + Due.times("(", 29) + "f (@fun x -> x)" + Due.times(")", 29));
    }

    private static void names(Due due) {
        due.fault(3, "@x");
        due.fault(3, "let x=@x in 1");
        due.fault(3, "let x=1 in let @x=2 in x");
        due.judged("let x=(let x=1 in x) in x");
        due.fault(3, "let rec f x = f @y in 1");
        due.fault(3, "let rec f x = 1 in @x");
        due.fault(3, "let rec f @f = 1 in 1");
        due.fault(3, "let rec f x @x = 1 in 1");
        due.fault(3, "(fun x -> @y)");
        due.fault(3, "let f=fun x -> x in @x");
        due.fault(3, "let l=nil in match l with nil -> @x; x t -> x");
        due.fault(3, "let l=nil in match l with nil -> 1; x @x -> x");
        due.fault(3, "let l=nil in match l with nil -> 1; x @l -> x");
        due.fault(3, "input x: int; input @x: int; 1");
        due.fault(3, "if @x < 1 then 1 else 2");
        due.fault(3, "set @a[0]=1; 1");
        due.fault(3, "1 + len @a");
        due.fault(3, "cons 1 @l");
        StringBuilder lets = new StringBuilder();
        for (int i = 0; i < 11; i++) {
            lets.append("let x").append(i).append("=1 in ");
        }
        due.judged(lets + "let y=1 in y");
        due.fault(3, lets + "let y=1 in let @z=1 in z");
        due.fault(3, lets + "let rec f @a = 1 in 1");
        due.fault(3, lets + "let y=1 in fun @z -> 1");
        due.judged(lets + "let y=(fun z -> 1) in 1");
        due.fault(3, lets.toString() + "let y=1 in let @z=unknown in 1");
    }

    private static void types(Due due) {
        due.fault(4, "let x=true in @x+1");
        due.fault(4, "let x=true in 1+@x");
        due.fault(4, "input b: bool; if 1 < @b then 1 else 2");
        due.fault(4, "input x: int; if not @x then 1 else 2");
        due.fault(4, "input x: int; len @x");
        due.fault(4, "input a: array; size @a");
        due.fault(4, "input a: array; @a + 1");
        due.fault(4, "let l=nil in @l[0]");
        due.fault(4, "let l=nil in set @l[0]=1; 2");
        due.fault(4, "input a: array; set a[@a]=1; 2");
        due.fault(4, "input a: array; input b: bool; set a[0]=1+@b; 2");
        due.fault(4, "input a: array; new @a");
        due.fault(4, "input a: array; cons 1 @a");
        due.fault(4, "input a: array; match @a with nil -> 1; x t -> 2");
        due.fault(4, "if true then 1 else @true");
        due.fault(4, "if true then 1 else @(let x=1 in nil)");
        due.fault(4, "let l=nil in match l with nil -> 1; x t -> @t");
        due.fault(4, "let rec f x = if x then 1 else 2 in let y=f @1 in 1");
        due.fault(4, "let rec f x = @let b=f 1 in if b then 1 else 2 in 1");
        due.fault(4, "let rec f x = @f in 1");
        due.fault(4, "input b: bool; 1 * @b");
        due.fault(4, "input b: bool; @b % 2");
        due.judged("let rec f b l a = if b then size l else len a in fun x -> x");
    }

    private static void calls(Due due) {
        due.fault(4, "let f=fun x -> x in f @f");
        due.fault(4, "let rec f x = x @x in 1");
        due.fault(4, "let x=1 in @x 1");
        due.fault(4, "let rec f x = x+1 in @f 1 2");
        due.fault(4, "let rec f x = x+1 in @f true 2");
        due.fault(4, "let rec f x y = x+y in f @true 2");
        due.fault(4, "let rec f x y = x+y in f 2 @(fun z -> z)");
        due.fault(4, "let rec f g = g 1 in let y=f @(fun x -> if x then 1 else 2) in 1");
        due.fault(4, "let rec f b = if b then 1 else 2 in f @(1+2)");
        due.fault(4, "let rec f a = len a in let b=new 1 in f (@b)");
        due.judged("let rec f a = len a in let b=new 1 in f b");
        due.judged("let f=fun x -> fun y -> x+y in let g=f 1 in g 2");
    }

    private static void forms(Due due) {
        String inputs = "input x: int; input y: int; input z: int; input a: array; ";
        due.fault(5, inputs + "if x+x+y@<1 then 1 else 0");
        due.fault(5, inputs + "if x+y@#z then 1 else 0");
        due.fault(5, inputs + "if x+x+x@<1 then 1 else 0");
        due.fault(5, inputs + "if x+x@<=y then 1 else 0");
        due.fault(5, inputs + "if len a+x@=y then 1 else 0");
        due.judged(inputs + "if x+x<1 then 1 else 0");
        due.judged(inputs + "if x<-x then 1 else 0");
        due.judged(inputs + "if x+y-z<1-z then 1 else 0");
        due.judged(inputs + "if len a-x>=1+2 then 1 else 0");
        due.judged(inputs + "if x+x+y-x-x-y=0 then 1 else 0");
        String rec = inputs + "let rec f p = 1 in ";
        due.fault(5, rec + "f @(x+y)");
        due.fault(5, rec + "f @(x+x)");
        due.fault(5, rec + "f @(-x-x)");
        due.judged(rec + "f (x+y-y+1-2)");
        due.judged(rec + "f (3-x)");
        due.judged(rec + "f (1+2)");
        due.judged(rec + "f (len a-1)");
        due.judged(rec + "x+y+z");
    }

    private static void conditions(Due due) {
        String six = "b && (b || true) && not b && 1<2 && b";
        due.judged("input b: bool; if " + six + " then 1 else 2");
        due.fault(5, "input b: bool; if @" + six + " && b then 1 else 2");
        due.fault(5, "input b: bool; if " + six + " then if @b then 1 else 2 else 3");
        due.fault(5, "input b: bool; if " + six + " then 1 else if @(b) then 2 else 3");
        due.fault(5, "input b: bool; if " + six + " then let f=(fun x -> if @not b then 2 else 3) in 1 else 1");
        due.fault(5, "input b: bool; assert 1=1 || b; if b&&b&&b&&b then assert @1=1; 1 else 2");
        due.judged("input b: bool; let x=if " + six + " then 1 else 2 in if b then x else 1");
        due.judged("let l=nil in if 1=1&&1=1&&1=1&&1=1&&1=1&&1=1 then match l with nil -> 1; x t -> 2 else 3");
    }

    private static void templates(Due due) {
        // Each let and each if is 1; a tree of ifs that is 5 high has 31 of them.
        String some = "let a=" + tree(5, "1") + " in let b=" + tree(4, "1") + " in let c=" + tree(3, "1") + " in ";
        String four = Due.times("if true then 1 else ", 4);
        due.judged(some + four + "1");
        due.fault(5, some + four + "@if true then 1 else 1");
        due.fault(5, some + "let d=if true then 1 else 1 in if true then 1 else if true then 1 else @if true then 1 else 1");
        // A bool has no CASE, but counts; what a let rec is counts beside the whole.
        due.judged(some + "let rec f x y = true in 1");
        due.fault(5, some + "let rec f x y = @if true then true else true in 1");
        due.fault(5, some + "@let rec f x y z w = true in 1");
        // Types that grow like this have thousands of parts in the end.
        StringBuilder big = new StringBuilder("let q0=1 in ");
        for (int i = 1; i < 11; i++) {
            big.append("let q").append(i).append(i == 4 ? "=@" : "=").append("fun f -> f q").append(i - 1)
                    .append(" q").append(i - 1).append(" in ");
        }
        due.fault(5, big + "1");
    }

    private static String tree(int height, String leaf) {
        return height == 0 ? leaf : "if true then " + tree(height - 1, leaf) + " else " + tree(height - 1, leaf);
    }

    private static void order(Due due) {
        due.fault(1, "let x=1 in in @$");
        due.fault(2, "y + 1 @in");
        due.fault(3, "let b=true in if b+1 < 2 then b+1 else @y");
        due.fault(4, "input x: int; input y: int; input z: int; if x+y<z then @x 1 else 2");
        due.fault(5, "input x: int; let rec f p = 1 in if x+x+x@<1 then f (x+x) else 2");
    }

    private static void program(Due due) {
        LiquidTongue tongue = new LiquidTongue();
        due.is("compile()", Due.compile(tongue, "input x: int; x"), 0);
        due.is("give", tongue.give(0, 5), true);
        due.is("run", tongue.run(9), 0);
        due.is("value()", tongue.value(), 5);
        due.is("compile()", Due.compile(tongue, "input x: int; x+"), 2);
        due.is("place()", tongue.place(), 16);
        due.is("run", tongue.run(9), -1);
        due.is("give", tongue.give(0, 5), false);
        due.is("value()", tongue.value(), 0);
        due.is("compile()", Due.compile(tongue, "input x: int; x"), 0);
        due.is("place()", tongue.place(), -1);
        due.is("run", tongue.run(9), 0);
        due.is("value() of an input anew", tongue.value(), 0);
    }
}
