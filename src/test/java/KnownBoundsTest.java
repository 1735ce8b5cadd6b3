/** Part III of the document, sentence by sentence: what is known of each E, and the edges of what must be SO. */
public final class KnownBoundsTest {
    public static void main(String[] args) {
        Due due = new Due("KnownBoundsTest");
        plainTypes(due);
        products(due);
        remainders(due);
        divisors(due);
        lengths(due);
        indexes(due);
        lists(due);
        asserts(due);
        manyNames(due);
        instances(due);
        starsInOrder(due);
        templates(due);
        branches(due);
        callsOfFunctions(due);
        argumentsInPlace(due);
        allAtOnce(due);
        fits(due);
        wholeNumbers(due);
        zeroOrMore(due);
        truths(due);
        conditions(due);
        asManyAsCanBe(due);
        firstInTheText(due);
        due.close();
    }

    private static void plainTypes(Due due) {
        due.sentence("S: int, v = S, if S is a number or one NAME plus or minus a number (also with - ahead); other S: int that says nothing");
        due.types("input x: int; input y: int; let a1=0 in let a2=-7 in let a3=1-2+9 in let a4=x in let a5=-x in let a6=x+3 in let a7=3-x in 1",
                "int", "int", "{v=0}int", "{v=-7}int", "{v=8}int", "{v=x}int", "{v=-x}int", "{v=x+3}int", "{v=-x+3}int");
        due.types("input x: int; input y: int; let a1=x+x in let a2=x+y in let a3=-x-x in let a4=x+y-y in let a5=x+x-x-1 in let a6=x-x in let a7=x-y in 1",
                "int", "int", "int", "int", "int", "{v=x}int", "{v=x-1}int", "{v=0}int", "int");
        due.types("input a: array; let x=len a in let y=len a-1 in let z=2-len a in let w=len a+x in let u=len a+len a in 1",
                "array", "{v=len a}int", "{v=len a-1}int", "{v=-len a+2}int", "int", "int");
        due.sentence("NAME, int, array or list: v = it. NAME, else: its type (an INPUT's says nothing). true, false: bool");
        due.types("qual int: v>=*; input x: int; input b: bool; input a: array; let l=nil in let p=x in let q=b in let r=a in let s=l in let t=true in "
                + "let u=false in 1", "int", "bool", "array", "{v=0}list", "{v=x}int", "bool", "{v=len a}array", "{v=size l}list", "bool", "bool");
        due.types("qual int: v>=*; let rec f x = x+1 in let g=f in 1", "x:int->{v>=x}int", "int", "x:int->{v>=x}int");
        due.sentence("NAME [ S ]: int that says nothing");
        due.types("qual int: v=0; let a=new 1 in let x=a[0] in let y=(if true then a[0] else 0) in 1", "{v=1}array", "int", "int");
    }

    private static void products(Due due) {
        due.sentence("S * S: int that says nothing, but v = it if both are numbers");
        due.types("input x: int; let a1=2*3 in let a2=-2*3 in let a3=2*-3 in let a4=1+1*2+2 in let a5=x-x+2*3 in let a6=0*0 in let a7=9999*9999 in 1",
                "int", "{v=6}int", "{v=-6}int", "{v=-6}int", "{v=8}int", "{v=6}int", "{v=0}int", "{v=99980001}int");
        due.types("input x: int; let a1=x*1 in let a2=1*x in let a3=x*0 in let a4=0*x in let y=3 in let a5=y*2 in let a6=x*x in 1",
                "int", "int", "int", "int", "int", "{v=3}int", "int", "int");
        due.types("let a=6/3 in let b=7/7 in 1", "int", "int");
    }

    private static void remainders(Due due) {
        due.sentence("but of % by a NUMBER (as it stands, alone) above 0: 0 <= v and v < it");
        due.types("input x: int; let a1=x%1 in let a2=x%2 in let a3=x%9999 in let a4=x%007 in let a5=5%3 in let a6=x+x%10 in 1",
                "int", "{v>=0&v<1}int", "{v>=0&v<2}int", "{v>=0&v<9999}int", "{v>=0&v<7}int", "{v>=0&v<3}int", "{v>=0&v<10}int");
        due.types("input x: int; let a1=x%0 in let a2=x%-3 in let a3=x%1+2 in let a4=x%3-0 in let y=3 in let a5=x%y in let a6=x%x in let a7=x%0000 in 1",
                "int", "int", "int", "int", "int", "{v=3}int", "int", "int", "int");
        due.judged("input x: int; let y=x%5 in assert y>=0 && y<=4; y");
        due.judged("input x: int; let y=x%5 in @assert y>=1; y");
        due.judged("input x: int; let y=x%5 in @assert y<4; y");
    }

    private static void divisors(Due due) {
        due.sentence("S / S, S % S: it must be SO that the second is not 0 (at the sign)");
        for (char sign : new char[] {'/', '%'}) {
            due.judged("5@" + sign + "0");
            due.judged("5" + sign + "1");
            due.judged("5" + sign + "-1");
            due.judged("5@" + sign + "1-1");
            due.judged("0" + sign + "2-1");
            String input = "input x: int; if ";
            due.judged("input x: int; 5@" + sign + "x");
            due.judged(input + "x>0 then 5" + sign + "x else 1");
            due.judged(input + "x>=0 then 5@" + sign + "x else 1");
            due.judged(input + "x<0 then 5" + sign + "x else 1");
            due.judged(input + "x<=0 then 5@" + sign + "x else 1");
            due.judged(input + "x#0 then 5" + sign + "x else 1");
            due.judged(input + "x=0 then 1 else 5" + sign + "x");
            due.judged(input + "x=0 then 5@" + sign + "x else 1");
            due.judged(input + "x#1 then 5@" + sign + "x else 5" + sign + "x");
            due.judged(input + "x#1 then 5" + sign + "x-1 else 5@" + sign + "x-1");
            due.judged(input + "x>=-1 && x<=1 && x#-1 && x#1 then 5@" + sign + "x else 1");
            due.judged(input + "x>=-1 && x<=1 && x#-1 && x#0 then 5" + sign + "x else 1");
        }
    }

    private static void lengths(Due due) {
        due.sentence("new S: it must be SO that 0 <= S (at 'new'); array, v = S if S is as above");
        due.judged("new 0");
        due.judged("@new -1");
        due.judged("@new 1-2");
        due.judged("input x: int; if x>=0 then new x else new -x");
        due.judged("input x: int; if x>=-1 then @new x else new -x");
        due.judged("input x: int; if x>=-1 then new x+1 else new 0");
        due.judged("input x: int; if x>-1 then new x else @new -x-2");
        due.judged("input x: int; if x>-1 then new x else new -x-1");
        due.judged("input a: array; new len a");
        due.judged("input a: array; @new len a-1");
        due.types("input x: int; input a: array; let b=new 0 in let c=new x in let d=new -x in let e=new x-2 in let g=new len a in let h=new x+x in 1",
                "int", "array", "{v=0}array", "{v=x}array", "{v=-x}array", "{v=x-2}array", "{v=len a}array", "array");
        due.sentence("what must be SO is told, what it makes is known all the same");
        due.judged("input x: int; let a=@new x in assert len a=x; a[0]");
    }

    private static void indexes(Due due) {
        due.sentence("NAME [ S ]: it must be SO that 0 <= S and S < the length (at the '['); set likewise (at its '[')");
        for (String form : new String[] {"a?", "set a?=1; 1"}) {
            String three = "let a=new 3 in ";
            due.judged(three + form.replace("?", "[0]"));
            due.judged(three + form.replace("?", "[2]"));
            due.judged(three + form.replace("?", "@[3]"));
            due.judged(three + form.replace("?", "@[-1]"));
            due.judged("let a=new 0 in " + form.replace("?", "@[0]"));
            String some = "input a: array; input i: int; if ";
            due.judged(some + "i>=0 && i<len a then " + form.replace("?", "[i]") + " else 0");
            due.judged(some + "i>=-1 && i<len a then " + form.replace("?", "@[i]") + " else 0");
            due.judged(some + "i>=-1 && i<len a-1 then " + form.replace("?", "[i+1]") + " else 0");
            due.judged(some + "i>=0 && i<=len a then " + form.replace("?", "@[i]") + " else 0");
            due.judged(some + "i>0 && i<=len a then " + form.replace("?", "[i-1]") + " else 0");
            due.judged(some + "i>=0 && i<=len a-1 then " + form.replace("?", "[i]") + " else 0");
            due.judged(some + "i>=0 && i<=len a-1 then " + form.replace("?", "[len a-1]") + " else 0");
            due.judged(some + "i>=0 && i<len a then " + form.replace("?", "[i-i]") + " else 0");
            due.judged(some + "i<=0 && i+len a>0 then " + form.replace("?", "[-i]") + " else 0");
            due.judged(some + "i<=0 && i+len a>=0 then " + form.replace("?", "@[-i]") + " else 0");
            due.judged(some + "len a>=1 then " + form.replace("?", "[len a-1]") + " else 0");
            due.judged(some + "len a>=1 then " + form.replace("?", "@[len a]") + " else 0");
            due.judged(some + "len a>=1 then " + form.replace("?", "@[len a-2]") + " else 0");
            due.judged(some + "i<len a then " + form.replace("?", "@[i]") + " else 0");
            due.judged(some + "i>=0 then " + form.replace("?", "@[i]") + " else 0");
        }
        due.judged("let a=new 2 in let b=new 3 in let x=b[2] in a@[2]");
    }

    private static void lists(Due due) {
        due.sentence("nil: list, v = 0. cons S l: list, v = size l + 1");
        due.judged("let l=nil in let m=cons 1 l in let n=cons 1 m in assert size l=0 && size m=1 && size n=2; 1");
        due.judged("let l=nil in let m=cons 1 l in let n=cons 1 m in @assert size n=3; 1");
        due.types("let l=nil in let m=cons 7 l in let n=cons size m m in 1", "{v=0}list", "{v=size l+1}list", "{v=size m+1}list");
        due.sentence("match: E's type FITS under size l = 0, F's under 1 <= size l, x an int that says nothing, t a list with v = size l - 1");
        String rec = "let rec f l = match l with nil -> ";
        due.judged(rec + "(assert size l=0; 1); x t -> 2 in 1");
        due.judged(rec + "1; x t -> (assert size l>=1; 2) in 1");
        due.judged(rec + "1; x t -> @assert size l>=2; 2 in 1");
        due.judged(rec + "1; x t -> (assert size t>=0; 2) in 1");
        due.judged(rec + "1; x t -> @assert size t>=1; 2 in 1");
        due.judged(rec + "1; x t -> (assert size t=size l-1; 2) in 1");
        due.judged(rec + "1; x t -> @assert x=x+1; 2 in 1");
        due.types("qual int: v>=0; qual list: v>=0; let rec f l = match l with nil -> 1; x t -> 2 in 1",
                "l:{v>=0}list->{v>=0}int", "{v>=0}list", "int", "{v=size l-1}list");
        due.judged(rec + "10@/0; x t -> 2 in 1");
        due.judged(rec + "2; x t -> 10@/0 in 1");
        due.judged(rec + "10@/size l; x t -> 10/size l in 1");
        due.judged(rec + "2; x t -> 10@/size t in 1");
        due.types("qual int: v>0; qual int: v>=0; let rec f l = match l with nil -> 0; x t -> 1 in 1",
                "l:list->{v>=0}int", "list", "int", "{v=size l-1}list");
        due.types("qual int: v>0; qual int: v>=0; let rec f l = match l with nil -> 1; x t -> 0 in 1",
                "l:list->{v>=0}int", "list", "int", "{v=size l-1}list");
        due.types("qual int: v=*; input b: bool; let rec f l = match l with nil -> 1; x t -> let y=(if b then x else x) in let z=(if b then size t else 1) in 2 in 1",
                "bool", "l:list->int", "list", "int", "{v=size l-1}list", "{v=x}int", "int");
        due.judged("let l=nil in match l with nil -> 1; x t -> 10/0");
        due.judged("let l=nil in let m=cons 1 l in match m with nil -> 10/0; x t -> 1");
        due.judged("let l=nil in let m=cons 1 l in match m with nil -> 1; x t -> 10@/0");
        due.types("qual int: v=*; let rec f l = match l with nil -> 0; x t -> size l in 1",
                "l:list->{v=size l}int", "list", "int", "{v=size l-1}list");
        due.types("qual int: v=*+1; let rec f l = match l with nil -> 0; x t -> size l in 1",
                "l:list->int", "list", "int", "{v=size l-1}list");
    }

    private static void asserts(Due due) {
        due.sentence("assert C: it must be SO that C (at 'assert'), and in what is behind C is a condition");
        due.judged("assert true; 1");
        due.judged("@assert false; 1");
        due.judged("input x: int; @assert x>0; 10/x");
        due.judged("input x: int; if x>0 then assert x>=1; 1 else assert x<1; 2");
        due.judged("input x: int; if x>0 then @assert x>=2; 1 else 2");
        due.types("qual int: v>0; input x: int; assert x>0; let y=(if true then x else 1) in 1", "int", "{v>0}int");
        due.types("qual int: v>0; input x: int; assert x>=0; let y=(if true then x else 1) in 1", "int", "int");
        due.types("qual int: v>0; input x: int; let z=(assert x>0; 1) in let y=(if true then x else 1) in 1", "int", "{v=1}int", "int");
    }

    private static void manyNames(Due due) {
        due.sentence("(S that has more than one NAME: where something must be SO of it, it is compared as it is, if that is a FACT; otherwise it is not SO.)");
        String input = "input x: int; input y: int; input a: array; if ";
        due.judged(input + "x+y>0 then 5/x+y else 1");
        due.judged(input + "x+y>=0 then 5@/x+y else 1");
        due.judged(input + "x-y#0 then 5/x-y else 1");
        due.judged(input + "x#y then 5/y-x else 1");
        due.judged(input + "x>0 then 5/x+x else 1");
        due.judged(input + "x>0 then 5@/x+x+x else 1");
        due.judged(input + "x>0 && y>0 then 5/x+y else 1");
        due.judged(input + "x>0 && y>0 then 5@/x+y+len a else 1");
        due.judged(input + "x>0 && y>0 then 5@/x+x+y else 1");
        due.judged(input + "x>=0 && y>=0 then new x+y else new 1");
        due.judged(input + "x>=0 && y>=-1 then @new x+y else new 1");
        due.judged(input + "x>=0 && y>=0 then @new x+x+y else new 1");
        due.judged(input + "x>=0 then new x+x else new 1");
        due.judged(input + "x>=0 && y>=0 then @new x+y+len a else new 1");
        due.judged("let a=new 9 in let i=1 in let j=1 in a@[i+j]");
        due.judged("let a=new 9 in let i=1 in a@[i+i]");
        due.judged("let a=new 9 in let i=1 in a[i+i-i]");
        due.judged("let a=new 9 in a[len a-len a]");
        due.judged("let a=new 9 in a[len a-1]");
        due.judged("let a=new 9 in let i=1 in a[len a-i]");
        due.judged("let a=new 9 in let i=0 in a@[len a-i]");
        due.judged("let a=new 9 in let b=new 1 in a[len a-len b-1]");
        due.judged("let a=new 9 in let b=new 9 in a@[len a-len b-1]");
        due.judged("let a=new 9 in let b=new 1 in let c=new 1 in a@[len b-len c]");
        due.judged("if true then 1 else let x=1 in 5@/x+x+x");
        due.judged(input + "false then a@[x+y] else 1");
        due.judged(input + "false then a@[len a+x+y] else 1");
        due.judged(input + "false then set a@[x+y+x]=1; 1 else 1");
        due.judged(input + "false then @new x+x+y else new 1");
    }

    private static void instances(Due due) {
        due.sentence("A CASE may say INSTANCES: of each QUAL of its type in order");
        due.types("qual int: v>0; qual array: v>1; qual list: v>2; qual int: v<9; let rec f x a l b = let y=x+len a+size l in if b then 1 else 2 in 1",
                "x:{v>0&v<9}int->a:{v>1}array->l:{v>2}list->b:bool->{v>0&v<9}int", "{v>0&v<9}int", "{v>1}array", "{v>2}list", "bool", "int");
        due.types("qual int: v<9; qual int: v>0; qual int: v=5; input b: bool; let x=(if b then 5 else 5) in let y=(if b then 5 else 6) in 1",
                "bool", "{v<9&v>0&v=5}int", "{v<9&v>0}int");
        due.types("qual int: v<=5; qual int: v<6; qual int: v>=5; qual int: v>4; qual int: v=5; let x=(if true then 5 else 5) in 1",
                "{v<=5&v<6&v>=5&v>4&v=5}int");
        due.types("qual int: v<=4; qual int: v<5; qual int: v>=6; qual int: v>5; qual int: v=4; let x=(if true then 5 else 5) in 1", "int");
        due.types("qual int: v>=-5; qual int: v>-5; qual int: v<=-5; let x=(if true then -5 else -5) in 1", "{v>=-5&v<=-5}int");
        due.types("qual array: v<=*; qual list: v<=*; input x: int; let y=(if true then x else x) in 1", "int", "int");
    }

    private static void starsInOrder(Due due) {
        due.sentence("with * being each int, each array's length and each list's size that counts at the place of the TEMPLATE, in the order "
                + "in which they were told, the parameters of the TEMPLATE behind");
        due.types("qual int: v>=*; input x: int; input b: bool; input a: array; let l=nil in let g=fun p -> -1 in let rec f y c z = y+z in 1",
                "int", "bool", "array", "{v=0}list", "p:{v>=x&v>=len a&v>=size l}int->int", "{v>=x&v>=len a&v>=size l}int",
                "y:{v>=x&v>=len a&v>=size l}int->c:{v>=x&v>=len a&v>=size l&v>=y}int->z:{v>=x&v>=len a&v>=size l&v>=y&v>=c}int->int",
                "{v>=x&v>=len a&v>=size l}int", "{v>=x&v>=len a&v>=size l&v>=y}int", "{v>=x&v>=len a&v>=size l&v>=y&v>=c}int");
        due.types("qual array: v=*-1; qual list: v=-*; input x: int; let rec f a l = len a+size l in 1", "int",
                "a:{v=x-1}array->l:{v=-x&v=-len a}list->int", "{v=x-1}array", "{v=-x&v=-len a}list");
        due.sentence("what does not count at the place of the TEMPLATE is no *");
        due.types("qual int: v=*; let y=(let z=3 in if true then z else z) in 1", "int", "{v=3}int");
        due.types("qual int: v=*; let z=3 in let y=(if true then z else z) in 1", "{v=3}int", "{v=z}int");
        due.types("qual int: v=*; let rec f x = 1 in let z=3 in let y=f z in 1", "x:int->int", "int", "{v=3}int", "int");
        due.types("qual int: v=*; let z=3 in let rec f x = 1 in let y=f z in 1", "{v=3}int", "x:{v=z}int->int", "{v=z}int", "int");
        due.types("qual int: v=*; let l=nil in let y=(match l with nil -> size l; x t -> 1+size t) in 1",
                "{v=0}list", "{v=size l}int", "int", "{v=size l-1}list");
    }

    private static void templates(Due due) {
        due.sentence("A TEMPLATE of a function from A to B: of A, and of B at that place where the parameter's NAME (a new one each time) counts, too");
        due.types("qual int: v>=*; let rec f g x = g x in 1",
                "g:($0:int->{v>=$0}int)->x:int->{v>=x}int", "$0:int->{v>=$0}int", "int");
        due.types("qual int: v>=*; let rec f g x = g x x in 1",
                "g:($0:int->$1:{v>=$0}int->{v>=$0&v>=$1}int)->x:int->{v>=x}int", "$0:int->$1:{v>=$0}int->{v>=$0&v>=$1}int", "int");
        due.sentence("let x = E in F: a TEMPLATE for the whole, at its place; x has E's type in F; F's type FITS it");
        due.types("qual int: v>=*; qual int: v=3; input n: int; let y=(let x=n+1 in x) in let z=(let x=3 in x) in 1",
                "int", "{v>=n}int", "{v=n+1}int", "{v=3}int", "{v=3}int");
        due.types("qual int: v>=5; let y=(let x=3 in x) in 1", "int", "{v=3}int");
        due.sentence("fun x -> E: a TEMPLATE whose parameter is x, E's type FITS its answer");
        due.types("qual int: v>=*; qual int: v<=*; let f=fun x -> x in let g=fun x -> x+1 in let h=fun x -> x-1 in 1",
                "x:int->{v>=x&v<=x}int", "int", "x:int->{v>=x}int", "int", "x:int->{v<=x}int", "int");
        due.sentence("let rec: f's type is a TEMPLATE at its place whose parameters are x ..; E's type FITS what f answers");
        due.types("qual int: v>=*; let rec f x y = if x>y then x else y in 1", "x:int->y:{v>=x}int->{v>=x&v>=y}int", "int", "{v>=x}int");
        due.types("qual int: v>=*; let rec f x y = if x>y then x else y in f 2 1", "x:int->y:int->{v>=x&v>=y}int", "int", "int");
    }

    private static void branches(Due due) {
        due.sentence("if C then E else F: a TEMPLATE; E's type FITS under C, F's under not C");
        due.types("qual int: v>=0; input x: int; let y=(if x>=0 then x else 0-x) in let z=(if x>0 then x else -x) in let w=(if x>=-1 then x else -x) in 1",
                "int", "{v>=0}int", "{v>=0}int", "int");
        due.types("qual int: v>=0; qual int: v<=7; input x: int; let y=(if x>=0 && x<=7 then x else 3) in let z=(if x<0 || x>7 then 3 else x) in "
                + "let w=(if x<0 && x>7 then 3 else x) in 1", "int", "{v>=0&v<=7}int", "{v>=0&v<=7}int", "int");
        due.types("qual int: v>=0; input x: int; let y=(if x>0 || x>5 then x else 1) in let z=(if x>0 || x>-5 then x else 1) in "
                + "let w=(if x#0 && x>=0 || x=0 then x else 1) in let u=(if not (x<0 && x#3) then x else 1) in 1",
                "int", "{v>=0}int", "int", "{v>=0}int", "{v>=0}int");
        due.judged("input x: int; if x>3 then assert x>=4; 1 else assert x<=3; 2");
        due.judged("input x: int; if x>3 then 1 else @assert x<3; 2");
        due.judged("input x: int; if x=3 then assert x=3; 1 else assert x#3; 2");
        due.judged("input x: int; if x#3 then assert x#3; 1 else assert x=3; 2");
        due.judged("input x: int; input y: int; if x<y then assert y>x; 1 else assert y<=x; 2");
    }

    private static void callsOfFunctions(Due due) {
        due.sentence("NAME ARG ..: the ARG's type FITS the parameter's");
        due.types("qual int: v>0; let rec f x = x in f 1", "x:{v>0}int->{v>0}int", "{v>0}int");
        due.types("qual int: v>0; let rec f x = x in f 0", "x:int->int", "int");
        due.types("qual int: v>0; let rec f x = x in let y=f 1 in f 0", "x:int->int", "int", "int");
        due.types("qual int: v>0; let rec f x = x in let y=f 1 in f 2", "x:{v>0}int->{v>0}int", "{v>0}int", "{v>0}int");
        due.types("qual int: v>0; input n: int; let rec f x = x in if n>0 then f n else 1", "int", "x:{v>0}int->{v>0}int", "{v>0}int");
        due.types("qual int: v>0; input n: int; let rec f x = x in if n>=0 then f n else 1", "int", "x:int->int", "int");
        due.types("qual int: v>0; input n: int; let rec f x = x in if n>=0 then f (n+1) else 1", "int", "x:{v>0}int->{v>0}int", "{v>0}int");
        due.types("qual array: v>0; let rec f a = 1 in let b=new 1 in f b", "a:{v>0}array->int", "{v>0}array", "{v=1}array");
        due.types("qual array: v>0; let rec f a = len a in let b=new 1 in f b", "a:{v>0}array->int", "{v>0}array", "{v=1}array");
        due.types("qual array: v>0; let rec f a = len a in let b=new 0 in f b", "a:array->int", "array", "{v=0}array");
        due.types("qual list: v>0; let rec f l = size l in let m=nil in let n=cons 1 m in f n", "l:{v>0}list->int", "{v>0}list", "{v=0}list",
                "{v=size m+1}list");
        due.types("qual list: v>0; let rec f l = size l in let m=nil in f m", "l:list->int", "list", "{v=0}list");
    }

    private static void argumentsInPlace(Due due) {
        due.sentence("the answer, with the ARG (as S) in the place of the parameter's NAME if that is int, array (the ARG's length) or list (its size)");
        due.types("qual int: v=*; input n: int; let rec f x = x in let a1=f 5 in let a2=f (-5) in let a3=f n in let a4=f (-n) in let a5=f (n+1) in "
                + "let a6=f (1-n) in let a7=f (n-n) in 1", "int", "x:int->{v=x}int", "int", "{v=5}int", "{v=-5}int", "{v=n}int", "{v=-n}int",
                "{v=n+1}int", "{v=-n+1}int", "{v=0}int");
        due.types("qual int: v=*-1; let rec f a l = if len a=size l+1 then size l else 9 in let b=new 3 in let m=nil in let x=f b m in 1",
                "a:array->l:list->int", "array", "list", "{v=3}array", "{v=0}list", "int");
        due.types("qual int: v=*; let rec f a = len a in let b=new 3 in let x=f b in 1", "a:array->{v=len a}int", "array", "{v=3}array", "{v=len b}int");
        due.types("qual int: v=*; let rec f l = size l in let m=nil in let x=f m in 1", "l:list->{v=size l}int", "list", "{v=0}list", "{v=size m}int");
        due.types("qual int: v=*; input c: bool; let rec f b x = if b then x else x in let y=f true 3 in let z=f c 4 in 1",
                "bool", "b:bool->x:int->{v=x}int", "bool", "int", "{v=3}int", "{v=4}int");
        due.sentence("also in the parameters' REFINEMENTS that are still to come");
        due.types("qual int: v>*; let rec f x y = y in let g=f 3 in let z=g 4 in 1", "x:int->y:{v>x}int->{v>x}int", "int", "{v>x}int",
                "y:{v>3}int->{v>3}int", "{v>3}int");
        due.types("qual int: v>*; let rec f x y = y in let g=f 4 in let z=g 4 in 1", "x:int->y:int->int", "int", "int", "y:int->int", "int");
        due.types("qual int: v>*; let rec f x y = y in f 3 4", "x:int->y:{v>x}int->{v>x}int", "int", "{v>x}int");
        due.types("qual int: v>*; let rec f x y = y in f 4 4", "x:int->y:int->int", "int", "int");
    }

    private static void allAtOnce(Due due) {
        due.sentence("all at once: a NAME that came in with an ARG is not touched by another one (in f y x the one's x becomes y, the other's y becomes x)");
        due.types("qual int: v>=*; let rec f x y = let r=f y x in if x>y then x else y in 1",
                "x:int->y:int->{v>=x&v>=y}int", "int", "int", "{v>=y&v>=x}int");
        due.types("qual int: v=*; let rec f x y = let r=f (y+1) x in x in f 1 7",
                "x:int->y:int->{v=x}int", "int", "int", "{v=y+1}int");
        due.types("qual int: v=*; let rec f x y = let r=f y (x-1) in y in f 1 7", "x:int->y:int->{v=y}int", "int", "int", "{v=x-1}int");
        due.types("qual int: v>*; let rec f x y = if x>5 then f y (y+1) else -9 in f 1 2", "x:int->y:{v>x}int->int", "int", "{v>x}int");
        due.types("qual int: v>*; let rec f x y = if x>5 then f y x else -9 in f 1 2", "x:int->y:int->int", "int", "int");
    }

    private static void fits(Due due) {
        due.sentence("A FITS B, functions: B's parameter FITS A's, then A's answer (with B's parameter in the place of its own) FITS B's where B's parameter counts");
        due.types("qual int: v>0; let rec app g x = g x in app (fun y -> y) 1",
                "g:($0:{v>0}int->{v>0}int)->x:{v>0}int->{v>0}int", "$0:{v>0}int->{v>0}int", "{v>0}int", "{v>0}int");
        due.types("qual int: v>0; let rec app g x = g x in app (fun y -> y) 0",
                "g:($0:int->int)->x:int->int", "$0:int->int", "int", "int");
        due.types("qual int: v>0; let rec app g x = g 1 in app (fun y -> y) 0",
                "g:($0:{v>0}int->{v>0}int)->x:int->{v>0}int", "$0:{v>0}int->{v>0}int", "int", "{v>0}int");
        due.types("qual int: v>*; let rec app g x = g x in app (fun y -> y+1) 0",
                "g:($0:int->{v>$0}int)->x:int->{v>x}int", "$0:int->{v>$0}int", "int", "int");
        due.types("qual int: v>*; let rec app g x = g x in app (fun y -> y) 0",
                "g:($0:int->int)->x:int->int", "$0:int->int", "int", "int");
        due.types("qual int: v>0; input b: bool; let f=(if b then fun x -> x else fun y -> 1) in let r=f 1 in 1",
                "bool", "$0:{v>0}int->{v>0}int", "{v>0}int", "{v>0}int", "{v>0}int");
        due.types("qual int: v>0; input b: bool; let f=(if b then fun x -> x else fun y -> 1) in let r=f 0 in 1",
                "bool", "$0:int->int", "int", "int", "int");
        due.types("qual int: v>0; input b: bool; let f=(if b then fun x -> x else fun y -> 0) in let r=f 1 in 1",
                "bool", "$0:{v>0}int->int", "{v>0}int", "{v>0}int", "int");
        due.types("qual int: v>0; let rec f h = h (fun x -> x) in f (fun k -> k 1)",
                "h:($0:($1:{v>0}int->{v>0}int)->{v>0}int)->{v>0}int", "$0:($1:{v>0}int->{v>0}int)->{v>0}int", "{v>0}int",
                "$0:{v>0}int->{v>0}int");
        due.sentence("where B's parameter counts: what is known of it is known of A's answer");
        due.types("qual int: v>=*; qual int: v>0; let rec id x = x in let a=id 0 in let rec app g y = g y in let r=app id 5 in 1",
                "x:int->{v>=x}int", "int", "{v>=0}int", "g:($0:{v>0}int->{v>=$0&v>0}int)->y:{v>0}int->{v>=y&v>0}int",
                "$0:{v>0}int->{v>=$0&v>0}int", "{v>0}int", "{v>=5&v>0}int");
        due.types("qual int: v<=*; qual int: v<9; let rec id x = x in let a=id 9 in let rec app g y = g y in let r=app id 5 in 1",
                "x:int->{v<=x}int", "int", "{v<=9}int", "g:($0:{v<9}int->{v<=$0&v<9}int)->y:{v<9}int->{v<=y&v<9}int",
                "$0:{v<9}int->{v<=$0&v<9}int", "{v<9}int", "{v<=5&v<9}int");
        due.types("qual array: v>0; qual int: v<=*; let rec length a = len a in let c=new 0 in let n=length c in let rec app g b = g b in let d=new 1 in "
                + "let r=app length d in 1", "a:array->{v<=len a}int", "array", "{v=0}array", "{v<=len c}int",
                "g:($0:{v>0}array->{v<=len $0}int)->b:{v>0}array->{v<=len b}int",
                "$0:{v>0}array->{v<=len $0}int", "{v>0}array", "{v=1}array", "{v<=len d}int");
        due.sentence("bool: always");
        due.types("qual int: v>0; let rec f b = b in if true then f true else f false", "b:bool->bool", "bool");
    }

    private static void wholeNumbers(Due due) {
        due.sentence("FACTS SAY one when there are no whole numbers for which they hold and that one does not");
        String input = "input x: int; input y: int; input z: int; if ";
        due.judged(input + "x+x>=1 && x+x<=1 then 10/0 else 1");
        due.judged(input + "x+x>=2 && x+x<=2 then 10@/0 else 1");
        due.judged(input + "x>0 && x<1 then 10/0 else 1");
        due.judged(input + "x>0 && x<2 then assert x=1; 1 else 1");
        due.judged(input + "x>0 && x<2 then 10@/0 else 1");
        due.judged(input + "x+x>=3 then assert x>=2; 1 else 1");
        due.judged(input + "x+x>=3 then @assert x>=3; 1 else 1");
        due.judged(input + "x+x<=-3 then assert x<=-2; 1 else 1");
        due.judged(input + "x+y=1 && x=y then 10/0 else 1");
        due.judged(input + "x+y=2 && x=y then assert x=1; 1 else 1");
        due.judged(input + "x+y>=1 && x-y>=0 then assert x>=1; 1 else 1");
        due.judged(input + "x+y>=1 && x-y>=0 then @assert x>=2; 1 else 1");
        due.judged(input + "x<y && y<z then assert z-x>=2; 1 else 1");
        due.judged(input + "x<y && y<z then @assert z-x>=3; 1 else 1");
        due.judged(input + "x<=y && y<=z && z<=x then assert x=z; 1 else 1");
        due.judged(input + "x<y && y<z && z<x then 10/0 else 1");
        due.judged(input + "x<=y && y<=z && z<=x+1 then @assert x=z; 1 else 1");
        due.judged(input + "x>=1 && x<=3 && x#1 && x#3 then assert x=2; 1 else 1");
        due.judged(input + "x>=1 && x<=4 && x#1 && x#4 then @assert x=2; 1 else 1");
        due.judged(input + "x+y#0 && x>=-y && y>=-x then assert x+y>=1; 1 else 1");
        due.judged(input + "(x<y || x>z) && x>=y && y>=0 then assert z<x; 1 else 1");
        due.judged(input + "(x<y || x>z) && x>=y && y>=0 then @assert z<x-1; 1 else 1");
        due.judged(input + "(x+y<=0 || x+y<=1) && x-y<=1 && z<=x then assert z+z<=2; 1 else 1");
        due.judged(input + "(x+y<=0 || x+y<=1) && x-y<=1 && z<=x then @assert z+z<=1; 1 else 1");
        due.judged(input + "(x+y<=0 || x+y<=1) && x-y<=0 && z<=x then assert z<=0; 1 else 1");
        due.judged(input + "(x-y<0 || x-y<0) && (-x+y<0 || -x+y<0) then 10/0 else 1");
        due.judged(input + "(x-y<0 || x-y<0) && (y-x<0 || y-x<0) then 10/0 else 1");
        due.judged(input + "(x+y<0 || x+y<0) && (-y-x<=0 || -y-x<=0) then 10/0 else 1");
        due.judged(input + "(x-y<=0 || x-y<=0) && (-x+y<=0 || -x+y<=0) then 10@/0 else 1");
        due.types("qual int: v<*; input x: int; input y: int; let p=(if x-y<0 || x-y<0 then x else y-1) in let q=(if -y+x<0 || -y+x<0 then x else y-1) in "
                + "let r=(if y>x || y>x then x else y-1) in let s=(if x<y || x<=y then x else y-1) in 1", "int", "int", "{v<y}int", "{v<y}int", "{v<y}int",
                "int");
        due.judged(input + "x#y && x>=y && y>=z then assert x>z; 1 else 1");
        due.judged(input + "x#y && x>=y && -y>=z then assert x+z#x-y+1; 1 else 1");
        due.judged(input + "x#-y && x+y<=0 && z-y>=0 then @assert x+z<0; 1 else 1");
        due.judged(input + "x#-y && x+y<=0 && z-y<=0 then assert x+z<0; 1 else 1");
        due.judged(input + "x#-y && x+y>=0 && z+y<=0 then assert z<x; 1 else 1");
        due.judged("qual int: v>=1; let rec f x = if x#1&&x#2&&x#3&&x#4&&x#5 then assert x>=6; 1 else 2 in f 9");
        due.judged("qual int: v>=1; let rec f x = if x#1&&x#2&&x#3&&x#4&&x#5 then @assert x>=7; 1 else 2 in f 9");
        due.judged("let a=9999*9999 in let b=a+1 in assert a>9999 && b-9999>9999 && b-a=1; if a<b then 1 else 10/0");
    }

    private static void zeroOrMore(Due due) {
        due.sentence("(Lengths and sizes are 0 or more.)");
        due.judged("input a: array; assert len a>=0; 1");
        due.judged("input a: array; assert len a>-1; 1");
        due.judged("input a: array; @assert len a>0; 1");
        due.judged("let rec f l = assert size l>=0; 1 in 1");
        due.judged("let rec f l = @assert size l>=1; 1 in 1");
        due.judged("input a: array; if len a<0 then 10/0 else 1");
        due.judged("input a: array; if len a+len a<1 then assert len a=0; 1 else assert len a>=1; 2");
        due.judged("input x: int; @assert x>=0; 1");
        due.types("qual array: v>=0; qual array: v>=1; qual list: v>-1; input x: int; input a: array; let b=(if true then new x+x else a) in "
                + "let rec f l m = if true then l else m in let n=nil in f n n",
                "int", "array", "{v>=0}array", "l:{v>-1}list->m:{v>-1}list->{v>-1}list", "{v>-1}list",
                "{v>-1}list", "{v=0}list");
        due.types("qual int: v>=0; input x: int; let y=(if true then x else 1) in 1", "int", "int");
    }

    private static void truths(Due due) {
        due.sentence("the conditions: C, as truths go; NAMES that are truths may be either");
        due.judged("input b: bool; if b then if b then 1 else 10/0 else if b then 10/0 else 1");
        due.judged("input b: bool; if b then 10@/0 else 1");
        due.judged("input b: bool; if b then 1 else 10@/0");
        due.judged("let b=false in if b then 10@/0 else 1");
        due.judged("input b: bool; input c: bool; if b && not c then if c || not b then 10/0 else 1 else 1");
        due.judged("input b: bool; input c: bool; if b || c then if not b && not c then 10/0 else 1 else if b || c then 10/0 else 1");
        due.judged("input b: bool; input c: bool; if b then if c then 10@/0 else 1 else 1");
        due.judged("input b: bool; input c: bool; if b then if c then 1 else 10@/0 else 1");
        due.judged("input b: bool; input c: bool; if b && not c then 10@/0 else 1");
        due.judged("input b: bool; input c: bool; if not b then if c then 10@/0 else 1 else 1");
        due.judged("input b: bool; input x: int; if b || x>0 then if b then 1 else 10/x else 1");
        due.judged("input b: bool; input x: int; if b || x>0 then if b then 10@/x else 1 else 1");
        due.judged("input b: bool; input x: int; if b && x=1 || not b && x=2 then @assert x=1; 1 else 1");
        due.judged("input b: bool; input x: int; if b && x=1 || not b && x=2 then assert x>0; 1 else 1");
        due.judged("input x: int; input y: int; if x=1 && (y=1 || y=2) || x=2 && y=3 then assert x+y<=5; 1 else 1");
        due.judged("input x: int; input y: int; if x=1 && (y=1 || y=2) || x=2 && y=3 then @assert x+y<=4; 1 else 1");
        due.judged("input x: int; input y: int; if x=2 && y=3 || x=1 && (y=1 || y=2) then @assert x+y>=3; 1 else 1");
        due.judged("input b: bool; assert b || not b; 1");
        due.judged("input b: bool; @assert b; 1");
        due.judged("if true then 1 else 10/0");
        due.judged("if not false && (true || false) then 1 else 10/0");
        due.judged("if false then 10/0 else 1");
        due.judged("if false || true then 10@/0 else 1");
    }

    private static void conditions(Due due) {
        due.sentence("under the FACTS of all that counts there and under the conditions that were gone through");
        due.judged("input x: int; if x>0 then let f=fun y -> 10/x in f 1 else 1");
        due.judged("input x: int; let f=fun y -> 10@/x in if x>0 then f 1 else 1");
        due.judged("input x: int; let y=(if x>0 then 1 else 2) in 10@/x");
        due.judged("input x: int; if x>0 then let y=10/x in let z=10/x in 10/x else 1");
        due.judged("let x=3 in let rec f y = 10/x in f 1");
        due.judged("input n: int; let x=n+1 in if n>=0 then 10/x else 1");
        due.judged("input n: int; let x=n+1 in let y=x+1 in if y>=2 then 10/x else 1");
        due.judged("input n: int; let x=n+1 in let y=x+1 in if y>=1 then 10@/x else 1");
        due.judged("qual int: v>=1; let rec f x = let y=x-1 in if y>=1 then f y else 10/x in f 5");
        due.judged("qual int: v>=1; let rec f x = let y=x-1 in if y>=0 then f y else 10@/x in f 5");
        due.judged("let rec g h = 1 in if 1=2 then g (fun x -> 10/0) else 1");
        due.judged("let rec g h = 1 in if 1=1 then g (fun x -> 10@/0) else 1");
    }

    private static void asManyAsCanBe(Due due) {
        due.sentence("CASES say as many INSTANCES as can be so that all that must FIT does");
        due.types("qual int: v>0; qual int: v<0; qual int: v=0; let rec f x = f x in 1", "x:{v>0&v<0&v=0}int->{v>0&v<0&v=0}int", "{v>0&v<0&v=0}int");
        due.types("qual int: v>=0; qual int: v<=9; let rec f x = if x<9 then f (x+1) else x in f 0", "x:{v>=0&v<=9}int->{v>=0&v<=9}int",
                "{v>=0&v<=9}int");
        due.types("qual int: v>=0; qual int: v<=9; let rec f x = if x<=9 then f (x+1) else x in f 0", "x:{v>=0}int->{v>=0}int", "{v>=0}int");
        due.types("qual int: v>=0; qual int: v<=9; let rec f x = if x<9 then f (x+1) else x in f 10", "x:{v>=0}int->{v>=0}int", "{v>=0}int");
        due.types("qual int: v>=0; qual int: v<=9; let rec f x = if x<9 then f (x+1) else x in f (-1)", "x:{v<=9}int->{v>=0&v<=9}int", "{v<=9}int");
        due.types("qual int: v>=0; let rec f x = let rec g y = f (y-1) in if x>0 then g x else x in f 3", "x:int->int", "int", "y:{v>=0}int->int", "{v>=0}int");
        due.types("qual int: v>=0; qual int: v>=1; let rec f x = let rec g y = f (y-1) in if x>0 then g x else x in f 3",
                "x:{v>=0}int->{v>=0}int", "{v>=0}int", "y:{v>=0&v>=1}int->{v>=0}int", "{v>=0&v>=1}int");
        due.judged("qual int: v>=0; qual int: v<=*; input a: array; let rec sum i s = if i>=len a then s else let x=a[i] in sum (i+1) x in sum 0 0");
        due.judged("qual int: v>=0; qual int: v<=*; input a: array; let rec sum i s = if i>len a then s else let x=a@[i] in sum (i+1) x in sum 0 0");
        due.judged("qual int: v<=*; input a: array; let rec sum i s = if i>=len a then s else let x=a@[i] in sum (i+1) x in sum 0 0");
    }

    private static void firstInTheText(Due due) {
        due.sentence("ACCEPTED when all that must be SO is; otherwise the first in the text that is not is told");
        due.judged("1");
        due.judged("@assert false; 10/0");
        due.judged("@new -1");
        due.judged("input x: int; let y=10@/x in let z=10/x in 1");
        due.judged("input x: int; let y=10/1 in let z=10@/x in 1");
        due.judged("input x: int; let y=@new x in 10/x");
        due.judged("input x: int; let a=new 1 in set a@[x]=1; a[x]");
        due.judged("input x: int; let rec f y = 10@/y in assert x>0; f x");
        due.judged("input x: int; if x>0 then 1@%0 else 1/0");
        due.judged("input x: int; if x>0 then 1 else 1@/0");
        due.judged("let l=nil in let m=cons 1 l in match m with nil -> 1/0; x t -> 1@/0");
    }
}
