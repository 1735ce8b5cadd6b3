/** Promises 5 and 6: which programs are ACCEPTED, and the place of what is not SO. */
public final class AcceptedTest {
    public static void main(String[] args) {
        Due due = new Due("AcceptedTest");
        asserts(due);
        divisions(due);
        arrays(due);
        whole(due);
        truths(due);
        functions(due);
        lists(due);
        places(due);
        calls(due);
        due.close();
    }

    private static void asserts(Due due) {
        due.judged("assert 1<2; 1");
        due.judged("@assert 2<1; 1");
        due.judged("input x: int; @assert x>=0; 1");
        due.judged("input x: int; if x>=0 then assert x+1>0; 1 else assert x<0; 2");
        due.judged("input x: int; if x>=0 then 1 else @assert x<-1; 2");
        due.judged("input x: int; let y=x+1 in assert y>x; assert y-x=1; y");
        due.judged("input x: int; let y=5-x in assert x+y=5; y");
        due.judged("let y=2*3 in assert y=6; y");
        due.judged("input x: int; let y=x*1 in @assert y=x; y");
        due.judged("input x: int; let y=x%7 in assert y>=0 && y<007; y");
        due.judged("input x: int; let y=x%1+6 in @assert y>=0; y");
        due.judged("input x: int; let y=x+0 in let z=x+y-y in assert z=y; y");
        due.judged("input x: int; let y=(if x>3 then assert x>2; x else 3) in @assert y>=3; y");
        due.judged("qual int: v>=3; input x: int; let y=(if x>3 then assert x>2; x else 3) in assert y>=3; y");
        // What is asserted is known behind it, but not of the whole E.
        due.judged("qual int: v>=0; input x: int; if x<0 then 1 else let y=(if x=0 then 1 else assert x>0; x) in assert y>=0; 1");
        due.judged("qual int: v>=3; input x: int; let y=(if true then @assert x>=3; x else 3) in assert y>=3; y");
        due.judged("if false then assert 1>2; 10/0 else 1");
    }

    private static void divisions(Due due) {
        due.judged("10/3");
        due.judged("10@/0");
        due.judged("input x: int; 10@%x");
        due.judged("input x: int; if x#0 then 10/x else 0");
        due.judged("input x: int; input y: int; if x#y then 10/x-y else 0");
        due.judged("input x: int; input y: int; if x#y then 10@/x+y else 0");
        due.judged("input x: int; if x+x#0 then 10/x+x else 0");
        due.judged("input x: int; if x>0 then 10@/x+x+x else 0");
        due.judged("input x: int; if x>0 then 10/x+x-x else 0");
        due.judged("input x: int; 10/x-x+1");
        // What is no FACT is not SO, even where nothing can be.
        due.judged("input x: int; if false then 10@/x+x+x else 0");
    }

    private static void arrays(Due due) {
        due.judged("input a: array; a@[0]");
        due.judged("input a: array; if len a>0 then a[0] else 0");
        due.judged("input a: array; if len a>0 then a[len a-1] else 0");
        due.judged("input a: array; input i: int; if i<len a then a@[i] else 0");
        due.judged("input a: array; input i: int; if i<len a && i>=0 then set a[i]=i; a[i] else 0");
        due.judged("input a: array; set a@[0]=1; a[0]");
        due.judged("let a=new 3 in a[2]");
        due.judged("let a=new 3 in a@[3]");
        due.judged("@new 0-1");
        due.judged("input n: int; if n>=0 then let a=new n in assert len a=n; 1 else 0");
        due.judged("input x: int; input y: int; if x+y>=0 then let a=new x+y in 1 else 0");
        due.judged("input x: int; input y: int; if x+y>=0 then let a=new x+y in a@[0] else 0");
        due.judged("input a: array; input x: int; input y: int; if x+y=0 then a@[x+y] else 0");
        due.judged("input a: array; assert len a>=0; let b=a in assert len b=len a; 1");
        due.judged("input a: array; @assert len a>0; 1");
    }

    private static void whole(Due due) {
        // Only whole numbers count: x + y even and x - y odd can not both be.
        due.judged("input x: int; input y: int; if x+y=0 && x-y=1 then assert 1=2; 1 else 0");
        due.judged("input x: int; if x+x=5 then assert 1=2; 1 else 0");
        due.judged("input x: int; if x+x<=5 then assert x<=2; 1 else 0");
        due.judged("input x: int; if x+x<=5 then @assert x<=1; 1 else 0");
        due.judged("input x: int; input y: int; if x+y<=3 && x-y<=2 then assert x<=2; 1 else 0");
        due.judged("input x: int; if x#1 && x#2 && x>=1 then assert x>=3; 1 else 0");
        due.judged("input x: int; input y: int; if x<y || x>y then assert x#y; 1 else assert x=y; 2");
        due.judged("input x: int; input y: int; input z: int; if x<y && y<z then assert x+1<z; 1 else 0");
        due.judged("input x: int; input y: int; input z: int; if x<y && y<z then @assert x+2<z; 1 else 0");
        due.judged("let x=1999*1999 in let y=x+9999 in assert y>x; assert y-x=9999; 1");
    }

    private static void truths(Due due) {
        due.judged("input b: bool; if b then if b then 1 else assert false; 2 else 3");
        due.judged("input b: bool; if b || not b then 1 else 10/0");
        due.judged("input b: bool; input c: bool; if b || c then if b then 1 else assert c; 2 else 3");
        due.judged("let b=true in if b then 1 else @assert false; 2");
        due.judged("input b: bool; input x: int; if b && x>0 || not b && x<0 then 10/x else 0");
        due.judged("input b: bool; input x: int; if not (b && x=0) then if b then 10/x else 0 else 0");
    }

    private static void functions(Due due) {
        due.judged("qual int: v>=0; let rec f x = if x>5 then x else f (x+1) in let y=f 0 in assert y>=0; y");
        due.judged("let rec f x = if x>5 then x else f (x+1) in let y=f 0 in @assert y>=0; y");
        due.judged("qual int: v>0; let rec f x = 10/x in f 3");
        due.judged("qual int: v>0; let rec f x = 10@/x in f 0");
        due.judged("qual int: v>0; let rec f x = 10/x in 1");
        due.judged("qual int: v>=*; let rec f y x = if y>x then f x y else x-y in let d=f 1 2 in 1");
        due.judged("qual int: v>=0; let rec app g x = g x in let a=new 7 in app (fun i -> a@[i]) 3");
        due.judged("qual int: v<7; qual int: v>=0; let rec app g x = g x in let a=new 7 in app (fun i -> a[i]) 3");
        // At app's place a does not count, so nothing can be said of it there.
        due.judged("qual int: v<*; qual int: v>=0; let rec app g x = g x in let a=new 7 in app (fun i -> a@[i]) 3");
        due.judged("qual int: v<*; qual int: v>=0; let a=new 7 in let rec app g x = g x in app (fun i -> a[i]) 3");
        due.judged("qual int: v>=1; let f=fun x -> fun y -> x+y in let g=f 1 in 1");
        due.judged("qual int: v=*+1; let rec inc x = x+1 in let y=inc 4 in assert y=5; y");
        due.judged("qual int: v=*+1; let rec inc x = x+1 in let z=inc 4 in let y=inc z in assert y=6; y");
        due.judged("qual int: v=-*; let rec neg x = -x in let y=neg 4 in let z=neg y in assert y=-4; assert z=4; y");
        // ARGS come in all at once: the one's x becomes y, the other's y becomes x.
        due.judged("qual int: v=*; let rec f x y z = if z<=0 then x else f y x (z-1) in let r=f 1 2 3 in @assert r=1; r");
        due.judged("qual int: v<=*; qual int: v>=*; let rec two x y = if x<=y then assert x<=y; 1 else two y x in two 2 1");
        due.judged("qual int: v>=0; let g=if true then fun x -> x else fun y -> 0 in let r=g 3 in assert r>=0; r");
        due.judged("qual int: v>=0; input b: bool; let g=if b then fun x -> x else fun y -> 0-1 in let r=g 3 in @assert r>=0; r");
    }

    private static void lists(Due due) {
        due.judged("let l=nil in let m=cons 1 l in assert size m=1; match m with nil -> 10/0; x t -> assert size t=0; x");
        due.judged("let rec f l = match l with nil -> assert size l=0; 1; x t -> assert size l>=1; assert size t<size l; @assert x>0; f t in 1");
        due.judged("qual list: v=*; let rec copy l = match l with nil -> nil; x t -> let c=copy t in cons x c in "
                + "let l=nil in let m=cons 1 l in let n=copy m in assert size n=1; 1");
        due.judged("qual list: v<=*; let rec copy l = match l with nil -> nil; x t -> let c=copy t in cons x c in "
                + "let l=nil in let m=cons 1 l in let n=copy m in @assert size n=1; 1");
        // 'match' is not counted among the 6.
        due.judged("let l=nil in if 1=1&&1=1&&1=1&&1=1&&1=1 then match l with nil -> assert size l=0; 1; x t -> 1 else 1");
    }

    /** The first in the text is told, wherever it is found. */
    private static void places(Due due) {
        due.judged("input x: int; let y=10@/x in assert y>0; 1");
        due.judged("input x: int; input a: array; set a@[x]=1; a[x]");
        due.judged("let rec f x = @assert x>0; 1 in assert 1=2; f 1");
    }

    private static void calls(Due due) {
        LiquidTongue tongue = new LiquidTongue();
        due.is("accepted()", tongue.accepted(), -1);
        Due.compile(tongue, "10/0");
        due.is("place() before accepted()", tongue.place(), -1);
        due.is("accepted()", tongue.accepted(), 0);
        due.is("accepted() again", tongue.accepted(), 0);
        due.is("place()", tongue.place(), 2);
        Due.compile(tongue, "10/1");
        due.is("place() behind compile()", tongue.place(), -1);
        due.is("accepted()", tongue.accepted(), 1);
        due.is("place()", tongue.place(), -1);
        Due.compile(tongue, "10/");
        due.is("accepted()", tongue.accepted(), -1);
        due.is("place()", tongue.place(), 3);
    }
}
