/** Promises 11 to 13: how runs end, what they give and what FUEL they take. */
public final class RunTest {
    public static void main(String[] args) {
        Due due = new Due("RunTest");
        values(due);
        arithmetic(due);
        fuel(due);
        numbers(due);
        arrays(due);
        depth(due);
        order(due);
        functions(due);
        calls(due);
        due.close();
    }

    private static void values(Due due) {
        due.run("7", 1, 0, 7, 1);
        due.run("-7", 1, 0, -7, 1);
        due.run("true", 1, 0, 1, 1);
        due.run("false", 1, 0, 0, 1);
        due.run("new 3", 1, 0, 3, 1);
        due.run("nil", 1, 0, 0, 1);
        due.run("let l=nil in let m=cons 5 l in cons 6 m", 9, 0, 2, 5);
        due.run("fun x -> x", 1, 0, 0, 1);
        due.run("let rec f x = x in f", 9, 0, 0, 2);
        due.run("let l=nil in let m=cons 5 l in let n=cons 6 m in match n with nil -> 0; x t -> match t with nil -> 1; y u -> x+y+size u",
                20, 0, 11, 9);
        due.run("let l=nil in match l with nil -> 3; x t -> x", 20, 0, 3, 4);
    }

    private static void arithmetic(Due due) {
        String quotient = "input x: int; input y: int; x/y";
        String remainder = "input x: int; input y: int; x%y";
        due.run(quotient, 1, 0, 3, 1, 7, 2);
        due.run(quotient, 1, 0, -4, 1, -7, 2);
        due.run(quotient, 1, 0, -4, 1, 7, -2);
        due.run(quotient, 1, 0, 3, 1, -7, -2);
        due.run(remainder, 1, 0, 1, 1, 7, 2);
        due.run(remainder, 1, 0, 1, 1, -7, 2);
        due.run(remainder, 1, 0, -1, 1, 7, -2);
        due.run(remainder, 1, 0, -1, 1, -7, -2);
        due.run(remainder, 1, 0, 0, 1, -8, 2);
        due.run(quotient, 1, 4, 0, 1, 7, 0);
        due.run(remainder, 1, 4, 0, 1, 7, 0);
        due.run("input x: int; 3-x-x+10", 1, 0, 3, 1, 5);
        due.run("input x: int; if x=1 || x>5 && x<=7 || x#x then 1 else 0", 9, 0, 1, 2, 7);
        due.run("input x: int; if x=1 || x>5 && x<=7 || x#x then 1 else 0", 9, 0, 0, 2, 8);
        due.run("input x: int; if not (x>=3 && x#4) then 1 else 0", 9, 0, 1, 2, 4);
    }

    private static void fuel(Due due) {
        String sum = "input k: int; let rec sum n = if n<=0 then 0 else let s=sum (n-1) in s+n in let t=sum k in assert t>=0; t";
        due.run(sum, 2000, 0, 55, 47, 10);
        due.run(sum, 47, 0, 55, 47, 10);
        due.run(sum, 46, 1, 0, 46, 10);
        due.run(sum, 0, 1, 0, 0, 10);
        due.run("((1))", 3, 0, 1, 3);
        due.run("((1))", 2, 1, 0, 2);
        // An ARG that is a fun takes 1, others take none.
        due.run("let rec f g x b = g x in f (fun y -> y+1) (1+2) true", 5, 0, 4, 5);
        due.run("let rec f g x b = g x in f (fun y -> y+1) (1+2) true", 2, 1, 0, 2);
        due.run("if 1=1 && 2=2 then 3 else 4", 2, 0, 3, 2);
        due.run("let a=new 1 in set a[0]=5; a[0]", 4, 0, 5, 4);
    }

    private static void numbers(Due due) {
        String power = "input x: int; let y=x*x in let z=y*y in ";
        due.run(power + "z", 9, 0, 1L << 40, 5, 1024);
        due.run(power + "z+1", 9, 2, 0, 5, 1024);
        due.run(power + "-z", 9, 0, -(1L << 40), 5, 1024);
        due.run(power + "-z-1", 9, 2, 0, 5, 1024);
        // Only all of an S, when it is added, counts.
        due.run(power + "z+z-z", 9, 0, 1L << 40, 5, 1024);
        due.run(power + "z*z", 9, 2, 0, 5, 1024);
        due.run(power + "z*1", 9, 0, 1L << 40, 5, 1024);
        due.run("input x: int; let y=x*x in let z=y*y in 1", 9, 2, 0, 4, 1025);
        due.run(power + "if z+1>0 then 1 else 2", 9, 2, 0, 5, 1024);
        due.run(power + "let rec f a = 1 in f (z+1)", 9, 2, 0, 6, 1024);
        due.run(power + "new z+1", 9, 2, 0, 5, 1024);
        due.run("input x: int; x*x", 9, 2, 0, 1, Integer.MIN_VALUE);
    }

    private static void arrays(Due due) {
        due.run("let a=new 2 in a[2]", 9, 5, 0, 3);
        due.run("let a=new 2 in a[0-1]", 9, 5, 0, 3);
        due.run("let a=new 2 in set a[2]=1; 3", 9, 5, 0, 3);
        due.run("new 0-1", 9, 6, 0, 1);
        due.run("new 0", 9, 0, 0, 1);
        due.run("new 1000", 9, 0, 1000, 1);
        due.run("new 1001", 9, 2, 0, 1);
        String many = "input k: int; let rec f n = if n<=0 then 0 else let a=new 1000 in f (n-1) in f k";
        due.run(many, 200, 0, 0, 44, 10);
        due.run(many, 200, 2, 0, 45, 11);
        due.run(many.replace("input k: int;", "input k: int; input b: array;"), 200, 2, 0, 41, 10, 1);
        due.run("let a=new 2 in let b=a in set a[1]=7; set b[0]=8; let x=a[0] in let y=b[1] in x+y", 20, 0, 15, 11);
    }

    private static void depth(Due due) {
        String sum = "input k: int; let rec sum n = if n<=0 then 0 else let s=sum (n-1) in s+n in sum k";
        due.run(sum, 2000, 0, 1225, 200, 49);
        due.run(sum, 2000, 2, 0, 152, 50);
        String loop = "input k: int; let rec loop n = if n<=0 then 7 else loop (n-1) in loop k";
        due.run(loop, 2000, 0, 7, 102, 49);
        due.run(loop, 2000, 2, 0, 102, 50);
        // A call that ended is not deep: this has 16 more of them, one behind the other.
        due.run("input k: int; let rec f n = if n<=0 then 0 else let a=f (n-1) in let b=f (n-1) in a+b+1 in f k",
                20000, 0, 1023, 1 + 1 + 1024 * 2 + 1023 * 6, 10);
    }

    private static void order(Due due) {
        due.run("let a=new 1 in set a[5]=1; 1", 9, 5, 0, 3);
        String big = "let x=9999*9999 in let y=x*9999 in ";
        due.run(big + "let a=new 1 in set a[5]=y+y; 1", 9, 5, 0, 7);
        due.run(big + "let a=new 1 in set a[0]=y+y; 1", 9, 2, 0, 7);
        due.run(big + "let a=new 1 in set a[y+y]=1; 1", 9, 2, 0, 7);
        due.run(big + "y+y/0", 9, 2, 0, 5);
        due.run(big + "1/y+y", 9, 2, 0, 5);
        due.run(big + "if 1=1 || y+y>0 then 1 else 2", 9, 0, 1, 6);
        due.run(big + "if 1=2 && y+y>0 then 1 else 2", 9, 0, 2, 6);
        due.run(big + "if 1=2 || y+y>0 then 1 else 2", 9, 2, 0, 5);
        due.run(big + "assert y+y<0; 2", 9, 2, 0, 5);
        due.run("assert 1=2; 10/0", 9, 3, 0, 1);
        due.run("let x=10/0 in assert 1=2; 1", 9, 4, 0, 2);
        String edge = "input x: int; let y=x*x in let z=y*y in ";
        due.run(edge + "let rec f g a = 1 in f (fun p -> p) (z+1)", 9, 2, 0, 7, 1024);
        due.run(edge + "let rec f a g = 1 in f (z+1) (fun p -> p)", 9, 2, 0, 6, 1024);
        due.run(edge + "let rec f a g = 1 in f (z+1) (fun p -> p)", 6, 2, 0, 6, 1024);
        due.run(edge + "let rec f g a = 1 in f (fun p -> p) (z+1)", 6, 1, 0, 6, 1024);
    }

    private static void functions(Due due) {
        due.run("let rec f x y z = x-y+z in let g=f 10 in let h=g 3 in let a=h 1 in let b=h 2 in a+b", 50, 0, 17, 12);
        due.run("let f=fun x -> fun y -> x-y in f 10 3", 50, 0, 7, 5);
        due.run("let rec f x = fun y -> fun z -> x-y-z in f 10 3 2", 50, 0, 5, 5);
        due.run("let rec f n = if n<=0 then fun x -> x else fun x -> let m=x+n in f (n-1) m in f 3 10", 100, 0, 16, 20);
        due.run("let rec f g x = g x in let h=f (fun y -> y*2) in let a=h 4 in let b=h 5 in a+b", 50, 0, 18, 13);
        // A function keeps what counted where it was made.
        due.run("let x=1 in let f=fun y -> x+y in let rec g x1 = f x1 in g 5", 50, 0, 6, 8);
        due.run("let rec twice f x = let y=f x in f y in let rec thrice f x = let y=f x in let z=f y in f z in "
                + "let rec inc n = n+1 in twice (fun a -> thrice inc a) 0", 100, 0, 6, 26);
    }

    private static void calls(Due due) {
        LiquidTongue tongue = new LiquidTongue();
        Due.compile(tongue, "input x: int; 10/x");
        due.is("run(-1)", tongue.run(-1), -1);
        due.is("run(20001)", tongue.run(20001), -1);
        due.is("run(0)", tongue.run(0), 1);
        due.is("fuel()", tongue.fuel(), 0);
        due.is("run(20000)", tongue.run(20000), 4);
        due.is("fuel()", tongue.fuel(), 1);
        tongue.give(0, 5);
        due.is("run(20000)", tongue.run(20000), 0);
        due.is("value()", tongue.value(), 2);
        due.is("run(-1)", tongue.run(-1), -1);
        due.is("value() behind a run that is none", tongue.value(), 2);
        tongue.give(0, 0);
        due.is("run(1)", tongue.run(1), 4);
        due.is("value() of one that did not end well", tongue.value(), 0);
        tongue.give(0, 5);
        due.is("run(1)", tongue.run(1), 0);
        Due.compile(tongue, "(1)");
        due.is("value() behind compile()", tongue.value(), 0);
        due.is("fuel() behind compile()", tongue.fuel(), 1);
        due.is("run(9)", tongue.run(9), 0);
        due.is("fuel()", tongue.fuel(), 2);
        Due.compile(tongue, "(1");
        due.is("run(9)", tongue.run(9), -1);
        due.is("value() without a program", tongue.value(), 0);
        due.is("fuel() without a program", tongue.fuel(), 2);
    }
}
