/** Promises 7 and 8: types as they are told, and the OUT. */
public final class TypeTest {
    public static void main(String[] args) {
        Due due = new Due("TypeTest");
        bases(due);
        facts(due);
        instances(due);
        functions(due);
        swaps(due);
        whenAsked(due);
        longOnes(due);
        due.close();
    }

    private static void bases(Due due) {
        due.types("input x: int; input b: bool; input a: array; 1", "int", "bool", "array");
        due.types("let rec f x b a l = if b then size l else x+len a in 1",
                "x:int->b:bool->a:array->l:list->int", "int", "bool", "array", "list");
        due.types("let f=fun x -> x in 1", "x:int->int", "int");
        due.types("let b=true in let c=b in 1", "bool", "bool");
        due.types("let rec f x = f x in 1", "x:int->int", "int");
    }

    private static void facts(Due due) {
        due.types("input x: int; let y=x in let z=-x in let u=3-x in let w=x-3+1 in let s=x+x in 1",
                "int", "{v=x}int", "{v=-x}int", "{v=-x+3}int", "{v=x-2}int", "int");
        due.types("let x=007 in let y=-5 in let z=3-3 in let w=2*3 in 1", "{v=7}int", "{v=-5}int", "{v=0}int", "{v=6}int");
        due.types("input x: int; let y=x%10 in let z=x%1+2 in let w=x/2 in let u=x*2 in let t=x%007 in 1",
                "int", "{v>=0&v<10}int", "int", "int", "int", "{v>=0&v<7}int");
        due.types("let a=new 5 in let b=a in let n=len a in let m=len a-1 in let x=a[0] in 1",
                "{v=5}array", "{v=len a}array", "{v=len a}int", "{v=len a-1}int", "int");
        due.types("input x: int; let a=new x+1 in let b=new x+x in 1", "int", "{v=x+1}array", "array");
        due.types("let l=nil in let m=cons 1 l in let n=m in let k=2-size m in match n with nil -> 1; x t -> 2",
                "{v=0}list", "{v=size l+1}list", "{v=size m}list", "{v=-size m+2}int", "int", "{v=size n-1}list");
        due.types("let x=(let a=new 1 in (set a[0]=1; assert true; 4)) in 1", "int", "{v=1}array");
        due.types("let x=(assert true; 4) in 1", "{v=4}int");
    }

    private static void instances(Due due) {
        String quals = "qual int: v>=0; qual int: v<007; qual int: v<=*+0; qual array: v>=*-2; qual int: v>=-*+1;";
        due.types(quals + "input a: array; input b: bool; let rec f x y = x+y in 1",
                "array", "bool",
                "x:{v>=0&v<7&v<=len a&v>=-len a+1}int->y:{v>=0&v<7&v<=len a&v<=x&v>=-len a+1&v>=-x+1}int->int",
                "{v>=0&v<7&v<=len a&v>=-len a+1}int", "{v>=0&v<7&v<=len a&v<=x&v>=-len a+1&v>=-x+1}int");
        due.types("qual array: v>=*-2; qual array: v>0; input x: int; let rec f l a = 1 in let rec g a = let z=len a in 1 in 1",
                "int", "l:int->a:int->int", "int", "int", "a:{v>=x-2&v>0}array->int", "{v>=x-2&v>0}array", "{v=len a}int");
        due.types("qual list: v=*; qual int: v=*; qual int: v>=0; let rec count l = match l with nil -> 0; x t -> "
                + "let c=count t in c+1 in let k=nil in let n=count k in n",
                "l:list->{v=size l&v>=0}int", "list", "int", "{v=size l-1}list", "{v=size t&v>=0}int", "{v=0}list",
                "{v=size k&v>=0}int");
        // An int that two QUALS say the same of says it twice.
        due.types("qual int: v>1; qual int: v>1; let x=if true then 2 else 3 in 1", "{v>1&v>1}int");
        due.types("qual int: v=-0; qual int: v>-3; let x=if true then 0 else 0 in 1", "{v=0&v>-3}int");
    }

    private static void functions(Due due) {
        due.types("qual int: v>=0; let rec app f x = f x in let r=app (fun y -> y) 3 in 1",
                "f:($0:{v>=0}int->{v>=0}int)->x:{v>=0}int->{v>=0}int", "$0:{v>=0}int->{v>=0}int", "{v>=0}int",
                "{v>=0}int", "{v>=0}int");
        due.types("let f=fun x -> fun y -> fun z -> x+y+z in let g=f in let h=f 1 in 1",
                "x:int->$0:int->$1:int->int", "int", "int", "int", "x:int->$0:int->$1:int->int", "$0:int->$1:int->int");
        due.types("let g=if true then fun x -> x else fun y -> y in 1", "$0:int->int", "int", "int");
        due.types("let rec f x = fun y -> x+y in 1", "x:int->$0:int->int", "int", "int");
        due.types("qual int: v>=*; let g=if true then fun x -> x else fun y -> y+1 in 1", "$0:int->{v>=$0}int", "int", "int");
        due.types("qual int: v<=*; let rec f g a = g a in let h=f (fun b -> len b) in 1",
                "g:($0:array->{v<=len $0}int)->a:array->{v<=len a}int", "$0:array->{v<=len $0}int", "array",
                "a:array->{v<=len a}int", "array");
        due.types("let rec f g = let x=g (fun p -> p+1) in x+1 in 1", "g:($0:($1:int->int)->int)->int", "$0:($1:int->int)->int",
                "int", "int");
    }

    private static void swaps(Due due) {
        due.types("qual int: v<=*+2; let rec f x = x in let r=f 3 in 1", "x:int->{v<=x+2}int", "int", "{v<=5}int");
        due.types("qual int: v=-*+1; input n: int; let rec f x = 1-x in let r=f (2-n) in let s=f (n+1) in let t=f 9 in 1",
                "int", "x:int->{v=-x+1}int", "int", "{v=n-1}int", "{v=-n}int", "{v=-8}int");
        due.types("qual int: v>=*; input n: int; input a: array; let rec f x y = if x>y then x else y in let p=f n in "
                + "let q=p (len a-1) in let r=f 1 (-n) in 1",
                "int", "array", "x:int->y:int->{v>=x&v>=y}int", "int", "int", "y:int->{v>=n&v>=y}int",
                "{v>=n&v>=len a-1}int", "{v>=1&v>=-n}int");
        due.types("qual int: v>=*; let rec f x y = let r=f y x in if x>y then x else y in 1",
                "x:int->y:int->{v>=x&v>=y}int", "int", "int", "{v>=y&v>=x}int");
    }

    private static void whenAsked(Due due) {
        LiquidTongue tongue = new LiquidTongue();
        Due.compile(tongue, "let x=1 in 10/0");
        due.is("type(0) before accepted()", tongue.type(0), -1);
        tongue.accepted();
        due.is("type(-1)", tongue.type(-1), -1);
        due.is("type(1)", tongue.type(1), -1);
        due.is("out(-1)", tongue.out(-1), 0);
        due.is("type(0)", tongue.type(0), 8);
        due.is("out(-1)", tongue.out(-1), 8);
        due.is("out(0)", tongue.out(0), '{');
        due.is("out(7)", tongue.out(7), 't');
        due.is("out(8)", tongue.out(8), -1);
        due.is("out(-2)", tongue.out(-2), -1);
        due.is("type(9)", tongue.type(9), -1);
        due.is("out(-1) behind a type that is none", tongue.out(-1), 8);
        Due.compile(tongue, "let x=true in 1");
        due.is("type(0) behind compile()", tongue.type(0), -1);
        due.is("out(-1) behind compile()", tongue.out(-1), 8);
        tongue.accepted();
        due.is("type(0)", tongue.type(0), 4);
        due.is("out(4)", tongue.out(4), -1);
    }

    /** Six QUALS over long NAMES, in a function of which nothing is ever given, so that all is said. */
    private static void longOnes(Due due) {
        StringBuilder text = new StringBuilder();
        String[] quals = {"<=*+9999", ">=*-9999", "<*+9999", ">*-9999", "=-*+9999", "<=-*-9999"};
        for (String qual : quals) {
            text.append("qual int: v").append(qual).append(";");
        }
        text.append("let rec f aaaaaaaaaa bbbbbbbbbb cccccccccc dddddddddd = ");
        String one = "fun g -> let q=g 1 2 3 4 in let r=q 1 2 3 4 in let s=r 1 2 3 4 in let t=s 1 2 3 4 in let u=t 1 2 3 4 in ";
        text.append(one).append("u in let x=1 in 1");
        LiquidTongue tongue = new LiquidTongue();
        due.is("compile()", Due.compile(tongue, text.toString()), 0);
        tongue.accepted();
        due.is("type of x", Due.told(tongue, 11), "{v=1}int");
        due.is("type(0), too long", tongue.type(0), -1);
        due.is("out(-1)", tongue.out(-1), 8);
        due.is("out(0)", tongue.out(0), '{');
        due.is("out(3)", tongue.out(3), '1');
    }
}
