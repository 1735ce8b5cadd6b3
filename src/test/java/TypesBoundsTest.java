/** Part II of the document, sentence by sentence: NAMES, types, VALUES, and the FAULTS 3 to 5 with their order. */
public final class TypesBoundsTest {
    public static void main(String[] args) {
        Due due = new Due("TypesBoundsTest");
        whereNamesCount(due);
        toldTwice(due);
        twelveNames(due);
        namesThatFree(due);
        unknownNames(due);
        oneType(due);
        freeIsInt(due);
        typesOfParts(due);
        typesOfCalls(due);
        typesInOrder(due);
        typeWithinItself(due);
        comparisons(due);
        sixConditions(due);
        conditionsAround(due);
        sixtyInTemplates(due);
        argumentForms(due);
        orderOfFaults(due);
        firstOfEach(due);
        values(due);
        due.close();
    }

    /** So many NAMES that count: x0, x1 and so on, all ints. */
    private static String lets(int count) {
        StringBuilder text = new StringBuilder();
        for (int i = 0; i < count; i++) {
            text.append("let x").append(i).append("=1 in ");
        }
        return text.toString();
    }

    private static void whereNamesCount(Due due) {
        due.sentence("A NAME counts where it is told: of 'let' behind 'in'");
        due.judged("let x=1 in x");
        due.fault(3, "let x=@x in 1");
        due.fault(3, "let y=(let x=1 in x) in @x");
        due.sentence("of 'let rec' also in its own E (its other NAMES there)");
        due.judged("let rec f x y = f x y in f 1 2");
        due.fault(3, "let rec f x y = 1 in @x");
        due.fault(3, "let rec f x y = 1 in f 1 @y");
        due.fault(3, "let y=(let rec f x = f x in f 1) in @f 1");
        due.sentence("of 'fun' in its E");
        due.judged("fun x -> x");
        due.fault(3, "let f=fun x -> x in @x");
        due.fault(3, "let rec g f y = f y in g (fun x -> x) @x");
        due.sentence("of 'match' (the two behind ; ) in the last E");
        due.judged("let l=nil in match l with nil -> 0; x t -> x+size t");
        due.fault(3, "let l=nil in match l with nil -> @x; x t -> 1");
        due.fault(3, "let l=nil in match l with nil -> size @t; x t -> 1");
        due.fault(3, "let l=nil in let y=(match l with nil -> 1; x t -> x) in @x");
        due.fault(3, "let l=nil in let y=(match l with nil -> 1; x t -> x) in size @t");
        due.sentence("INPUTS count in all that is behind them");
        due.judged("input x: int; input y: int; x+y");
    }

    private static void toldTwice(Due due) {
        due.sentence("it can't be told where it counts already");
        due.fault(3, "input x: int; input @x: bool; 1");
        due.fault(3, "input x: int; let @x=1 in 1");
        due.fault(3, "let x=1 in let @x=2 in 1");
        due.fault(3, "let x=1 in let rec @x y = 2 in 1");
        due.fault(3, "let x=1 in let rec f @x = 2 in 1");
        due.fault(3, "let rec f @f = 1 in 1");
        due.fault(3, "let rec f x @x = 1 in 1");
        due.fault(3, "let rec f x y z @y = 1 in 1");
        due.fault(3, "let rec f x = let @f=1 in 1 in 1");
        due.fault(3, "let rec f x = let @x=1 in 1 in 1");
        due.fault(3, "let rec f x = 1 in let @f=2 in 1");
        due.fault(3, "let x=1 in fun @x -> 1");
        due.fault(3, "fun x -> fun @x -> 1");
        due.fault(3, "let rec f x = 1 in f (fun @f -> 1)");
        due.fault(3, "let l=nil in match l with nil -> 1; @l t -> 2");
        due.fault(3, "let l=nil in match l with nil -> 1; x @l -> 2");
        due.fault(3, "let l=nil in match l with nil -> 1; x @x -> 2");
        due.fault(3, "let l=nil in match l with nil -> 1; x t -> let @t=1 in 2");
        // Where it does not count, or not any more, it can.
        due.judged("let x=(let x=1 in x) in x");
        due.judged("let rec f x = x in let rec g x = x in let x=1 in x");
        due.judged("let f=fun x -> x in let g=fun x -> x in let x=1 in x");
        due.judged("let l=nil in match l with nil -> (let x=1 in x); x t -> x");
        due.judged("let l=nil in let y=(match l with nil -> 1; x t -> 2) in let x=1 in let t=2 in x+t");
        due.judged("if true then (let x=1 in x) else let x=2 in x");
    }

    private static void twelveNames(Due due) {
        due.sentence("at most 12 count at one place; FAULT 3: the 13th to count");
        due.judged(lets(12) + "x0+x11");
        due.fault(3, lets(12) + "let @y=1 in 1");
        due.judged(lets(10) + "let rec f y = y in f 1");
        due.fault(3, lets(11) + "let rec f @y = 1 in 1");
        due.fault(3, lets(12) + "let rec @f y = 1 in 1");
        due.judged(lets(7) + "let rec f a b c d = a in 1");
        due.fault(3, lets(8) + "let rec f a b c @d = a in 1");
        due.fault(3, lets(9) + "let rec f a b @c d = a in 1");
        due.judged(lets(11) + "fun y -> y");
        due.fault(3, lets(12) + "fun @y -> 1");
        due.judged(lets(9) + "let rec f y = 1 in f (fun z -> fun y -> z)");
        due.fault(3, lets(10) + "let rec f y = 1 in f (fun z -> fun @y -> z)");
        due.judged(lets(9) + "let l=nil in match l with nil -> 1; x t -> x+size t");
        due.fault(3, lets(10) + "let l=nil in match l with nil -> 1; x @t -> x");
        due.fault(3, lets(11) + "let l=nil in match l with nil -> 1; @x t -> x");
        StringBuilder inputs = new StringBuilder();
        for (int i = 0; i < 6; i++) {
            inputs.append("input y").append(i).append(": bool;");
        }
        due.judged(inputs + lets(6) + "x5");
        due.fault(3, inputs + lets(6) + "let @z=1 in 1");
        // Functions, truths, arrays and lists count, too.
        due.fault(3, "let a=true in let b=nil in let c=new 1 in let d=fun e -> 1 in " + lets(8) + "let @z=1 in 1");
    }

    private static void namesThatFree(Due due) {
        due.sentence("at most 12 count at one place: others may have counted before");
        due.judged(lets(11) + "let y=(let z=1 in z) in y");
        due.judged(lets(11) + "let y=(fun z -> z) in 1");
        due.judged(lets(11) + "if true then (let y=1 in y) else let z=1 in z");
        due.judged(lets(10) + "let y=(let rec f z = z in f 1) in let w=1 in w");
        due.judged(lets(8) + "let rec f a b c = a in let y=1 in let z=1 in let w=1 in y");
        due.fault(3, lets(8) + "let rec f a b c = a in let y=1 in let z=1 in let w=1 in let @u=1 in y");
        due.judged(lets(9) + "let l=nil in let y=(match l with nil -> 1; x t -> 2) in let z=1 in z");
    }

    private static void unknownNames(Due due) {
        due.sentence("FAULT 3: a NAME that does not count (at it)");
        due.fault(3, "@y");
        due.fault(3, "@y (fun x -> fun x -> 1)");
        due.fault(3, "@y+z");
        String known = "let a=new 1 in let l=nil in let rec f p q = 1 in ";
        String[] texts = {"@y", "-@y", "1+@y", "len @y", "size @y", "1-len @y", "@y*1", "1*@y", "1/@y", "1%@y", "new @y", "cons @y l", "cons 1 @y",
            "match @y with nil -> 1; x t -> 2", "set @y[0]=1; 1", "set a[@y]=1; 1", "set a[0]=@y; 1", "set a[0]=1; @y", "@y[0]", "a[@y]", "@y 1",
            "f @y", "f 1 @y", "f (@y)", "f (1+@y)", "f (len @y)", "f (fun x -> @y)", "if @y then 1 else 2", "if not @y then 1 else 2",
            "if true || @y then 1 else 2", "if @y<1 then 1 else 2", "if 1<@y then 1 else 2", "if 1=len @y then 1 else 2", "assert @y; 1",
            "assert true; @y", "(@y)", "if true then @y else 1", "if true then 1 else @y", "let x=@y in 1", "let rec g x = @y in 1", "fun x -> @y"};
        for (String text : texts) {
            due.fault(3, known + text);
        }
    }

    private static void oneType(Due due) {
        due.sentence("a NAME that is told by let has one type, also a function's");
        due.fault(4, "let f=fun x -> x in let y=f 1 in f @true");
        due.fault(4, "let rec f x = x in let y=f true in f @1");
        due.fault(4, "let rec f x = 1 in let a=new 1 in let y=f a in f @(1)");
        due.judged("let rec f x = x in let y=f 1 in f y");
    }

    private static void freeIsInt(Due due) {
        due.sentence("what stays free is int");
        due.types("let rec f x y = f x y in 1", "x:int->y:int->int", "int", "int");
        due.types("let f=fun x -> 1 in 1", "x:int->int", "int");
        due.types("let f=fun g -> g true in 1", "g:($0:bool->int)->int", "$0:bool->int");
        due.sentence("'let rec' f x y .. = E: f is a function of as many, one behind the other");
        due.types("let rec f x y z w = x in 1", "x:int->y:int->z:int->w:int->int", "int", "int", "int", "int");
        due.types("let rec f x = fun y -> y+x in 1", "x:int->$0:int->int", "int", "int");
    }

    private static void typesOfParts(Due due) {
        due.sentence("S and its PARTS are int, NAMES behind 'len', in 'set' and ahead of '[' are arrays, behind 'size', 'match' and of 'cons' lists");
        String names = "input n: int; input b: bool; input a: array; let l=nil in let rec f p = p+1 in ";
        String[] ints = {"?+1", "1+?", "-?", "?*1", "1*?", "?/1", "1%?", "new ?", "cons ? l", "set a[?]=1; 1", "set a[0]=?; 1", "a[?]",
            "f (?+1)", "if ?<1 then 1 else 2", "if 1#? then 1 else 2", "if 1+?=2 then 1 else 2"};
        for (String text : ints) {
            due.compiles(names + text.replace("?", "n"));
            for (String other : new String[] {"b", "a", "l", "f"}) {
                due.fault(4, names + text.replace("?", "@" + other));
            }
        }
        String[] arrays = {"len ?", "set ?[0]=1; 1", "?[0]", "if len ?<1 then 1 else 2", "f (len ?)"};
        for (String text : arrays) {
            due.compiles(names + text.replace("?", "a"));
            for (String other : new String[] {"n", "b", "l", "f"}) {
                due.fault(4, names + text.replace("?", "@" + other));
            }
        }
        String[] lists = {"size ?", "cons 1 ?", "match ? with nil -> 1; x t -> 2", "1+size ?", "f (1-size ?)"};
        for (String text : lists) {
            due.compiles(names + text.replace("?", "l"));
            for (String other : new String[] {"n", "b", "a", "f"}) {
                due.fault(4, names + text.replace("?", "@" + other));
            }
        }
        String[] bools = {"if ? then 1 else 2", "assert ?; 1", "if not ? then 1 else 2", "if 1=1 && (true || ?) then 1 else 2",
            "if ? && true then 1 else 2", "if ? || true then 1 else 2", "if true && ? && true then 1 else 2", "if (?) then 1 else 2",
            "assert not (true && ? || false); 1"};
        for (String text : bools) {
            due.compiles(names + text.replace("?", "b"));
            for (String other : new String[] {"n", "a", "l", "f"}) {
                due.fault(4, names + text.replace("?", "@" + other));
            }
        }
        due.sentence("'new' makes an array, 'nil' and 'cons' lists, 'match' tells the first int and the rest (a list)");
        due.types("let a=new 1 in let l=nil in let m=cons 1 l in match m with nil -> 1; x t -> 2",
                "{v=1}array", "{v=0}list", "{v=size l+1}list", "int", "{v=size m-1}list");
        due.sentence("'set' 's last E is what it is");
        due.types("let a=new 1 in let b=(set a[0]=1; true) in 1", "{v=1}array", "bool");
    }

    private static void typesOfCalls(Due due) {
        due.sentence("NAME ARG ..: as many ARGS as one likes, up to what the type has");
        String rec = "let rec f x y z = x+y+z in ";
        due.gives(rec + "f 1 2 3", 6);
        due.gives(rec + "let g=f 1 2 in g 3", 6);
        due.gives(rec + "let g=f 1 in let h=g 2 in h 3", 6);
        due.gives(rec + "let g=f 1 in g 2 3", 6);
        due.fault(4, rec + "@f 1 2 3 4");
        due.fault(4, rec + "let g=f 1 2 in @g 3 4");
        due.fault(4, rec + "let y=f 1 2 3 in @y 4");
        due.fault(4, "input x: int; @x 1");
        due.fault(4, "input x: bool; @x 1");
        due.fault(4, "input x: array; @x 1");
        due.fault(4, "let l=nil in @l 1");
        due.sentence("FAULT 4: of a call the NAME, then each ARG");
        due.fault(4, rec + "@f true 2 3 4");
        due.fault(4, rec + "f @true 2 3");
        due.fault(4, rec + "f 1 @true 3");
        due.fault(4, rec + "f 1 2 @true");
        due.fault(4, rec + "f @true true (fun p -> p)");
        due.fault(4, rec + "f 1 2 @(fun p -> p)");
        due.fault(4, rec + "f 1 @f");
        due.fault(4, "let rec f b g = if b then g 1 else 2 in f @(1) (fun p -> p)");
        due.fault(4, "let rec f b g = if b then g 1 else 2 in f @(1+1) (fun p -> p)");
        due.fault(4, "let rec f b g = if b then g 1 else 2 in f true @1");
        due.fault(4, "let rec f b g = if b then g 1 else 2 in f true @(fun p -> true)");
        due.fault(4, "let rec f b g = if b then g 1 else 2 in f true @(fun p -> fun q -> 1)");
        due.fault(4, "let rec f b g = if b then g 1 else 2 in f true @(fun p -> if p then 1 else 2)");
        due.fault(4, "let rec f b g = if b then g 1 true else 2 in f true @(fun p -> fun q -> p+q)");
        due.fault(4, "let rec f g = g true in let rec h x = x+1 in f @h");
        due.fault(4, "if true then fun x -> x+1 else @fun b -> if b then 1 else 2");
        due.fault(4, "if true then fun x -> fun y -> x+y else @fun x -> fun b -> if b then x else 2");
        due.judged("if true then fun x -> fun y -> x+y else fun x -> fun y -> x");
    }

    private static void typesInOrder(Due due) {
        due.sentence("FAULT 4: at the first word of an E that is found to be another type than it must be, parts first");
        due.fault(4, "if true then 1 else @true");
        due.fault(4, "if true then 1 else @(true)");
        due.fault(4, "if true then true else @1+1");
        due.fault(4, "if true then nil else @new 1");
        due.fault(4, "if true then nil else @let x=1 in x");
        due.fault(4, "if true then nil else @if true then 1 else 2");
        due.fault(4, "let l=nil in match l with nil -> 1; x t -> @t");
        due.fault(4, "let l=nil in match l with nil -> 1; x t -> @fun y -> 1");
        due.fault(4, "if true then nil else let a=new 1 in set a[@a]=1; 1");
        due.fault(4, "let rec f x = @let y=f 1 in if y then 1 else 2 in 1");
        due.sentence("of 'if' the C, then, then else, this one as the other");
        due.fault(4, "input b: bool; input a: array; if 1<@b then a+1 else true");
        due.fault(4, "input b: bool; input a: array; if b then @a+1 else len b");
        due.fault(4, "input b: bool; input a: array; if b then 1 else len @b");
        due.fault(4, "input x: int; if @x then 1 else 2");
        due.sentence("of let its E, then the NAME's E");
        due.fault(4, "input b: bool; let x=@b+1 in b+1");
        due.fault(4, "input b: bool; let x=1 in @b+x");
        due.fault(4, "input b: bool; let rec f x = @b+1 in b+1");
        due.fault(4, "input b: bool; let rec f x = x+1 in f @b");
        due.sentence("'set' NAME '[' S ']' '=' S ';' E in the order of the text");
        due.fault(4, "input b: bool; set @b[b]=b; b+1");
        due.fault(4, "input b: bool; input a: array; set a[@b]=b; b+1");
        due.fault(4, "input b: bool; input a: array; set a[0]=@b; b+1");
        due.fault(4, "input b: bool; input a: array; set a[0]=1; @b+1");
        due.fault(4, "input b: bool; cons @b b");
        due.fault(4, "input b: bool; cons 1 @b");
        due.fault(4, "input b: bool; @b*b");
        due.fault(4, "input b: bool; 1*@b");
    }

    private static void typeWithinItself(Due due) {
        due.sentence("a type within itself likewise");
        due.fault(4, "let rec f x = x @x in 1");
        due.fault(4, "fun x -> x @x");
        due.fault(4, "let rec f x = @f in 1");
        due.fault(4, "let rec f x y = @f x in 1");
        due.fault(4, "let rec f x = @fun y -> f in 1");
        due.fault(4, "let rec f x = f @f in 1");
        due.fault(4, "fun x -> fun y -> let a=x y in y @x");
        due.fault(4, "let rec f g = if true then g else @fun x -> g in 1");
        due.fault(4, "fun x -> fun y -> let a=x y in let b=(if true then x else x) in y @x");
        due.fault(4, "fun x -> fun y -> let a=x y in let b=(if true then y else y) in let c=(if true then x else x) in y @x");
        due.fault(4, "fun x -> fun y -> let a=(if true then x else y) in let b=x 1 in x @y");
        due.judged("fun x -> fun y -> let a=x y in let b=(if true then x else x) in y 1");
    }

    private static void comparisons(Due due) {
        due.sentence("FAULT 5: a comparison that, all brought to one side, has more than two NAMES: at its REL");
        String inputs = "input x: int; input y: int; input z: int; input a: array; let l=nil in let m=nil in ";
        for (String rel : new String[] {"=", "<", "<=", ">", ">=", "#"}) {
            due.compiles(inputs + "if x+y" + rel + "1 then 1 else 2");
            due.fault(5, inputs + "if x+y@" + rel + "z then 1 else 2");
            due.fault(5, inputs + "assert 0@" + rel + "x+y-z; 2");
        }
        due.compiles(inputs + "if x+y-z<1-z then 1 else 2");
        due.compiles(inputs + "if x<y+z-z then 1 else 2");
        due.compiles(inputs + "if x+y-x+z<1 then 1 else 2");
        due.compiles(inputs + "if x+y+z-x-y+x<1 then 1 else 2");
        due.fault(5, inputs + "if x+y-x+z+x@<1 then 1 else 2");
        due.fault(5, inputs + "if x+y+z-z@<len a then 1 else 2");
        due.sentence("(len a, size l count as ones of their own)");
        due.compiles(inputs + "if len a<size l then 1 else 2");
        due.fault(5, inputs + "if len a+size l@<size m then 1 else 2");
        due.fault(5, inputs + "if len a+x@<y then 1 else 2");
        due.fault(5, inputs + "if len a+len a@<x then 1 else 2");
        due.compiles(inputs + "if len a-len a+size l+x<y-y then 1 else 2");
        due.sentence("or one that is not once (or twice alone), plus or minus: at its REL");
        due.compiles(inputs + "if x+x<1 then 1 else 2");
        due.compiles(inputs + "if -x-x<1 then 1 else 2");
        due.compiles(inputs + "if x<-x then 1 else 2");
        due.compiles(inputs + "if len a+len a=3 then 1 else 2");
        due.compiles(inputs + "if x+x+x<x then 1 else 2");
        due.compiles(inputs + "if x+x<x+y then 1 else 2");
        due.compiles(inputs + "if x-x<1 then 1 else 2");
        due.compiles(inputs + "if 1<2 then 1 else 2");
        due.compiles(inputs + "if -x-y<1 then 1 else 2");
        due.fault(5, inputs + "if x+x+x@<1 then 1 else 2");
        due.fault(5, inputs + "if x+x@<1-x then 1 else 2");
        due.fault(5, inputs + "if -x-x-x@<1 then 1 else 2");
        due.fault(5, inputs + "if x+x@<y then 1 else 2");
        due.fault(5, inputs + "if y@<x+x then 1 else 2");
        due.fault(5, inputs + "if x@<y-x then 1 else 2");
        due.fault(5, inputs + "if x+x+y+y@<1 then 1 else 2");
        due.fault(5, inputs + "if true || not (1=1 && x+x@=y) then 1 else 2");
    }

    private static void sixConditions(Due due) {
        due.sentence("FAULT 5: more than 6 comparisons and truths (NAMES, true, false): at the first word of the C by which there are more");
        String input = "input b: bool; ";
        String[] atoms = {"b", "true", "false", "1=1", "not b", "(b)"};
        for (String atom : atoms) {
            due.compiles(input + "if " + Due.times(atom + "&&", 5) + atom + " then 1 else 2");
            due.fault(5, input + "if @" + Due.times(atom + "&&", 6) + atom + " then 1 else 2");
            due.compiles(input + "assert " + Due.times(atom + "||", 5) + atom + "; 1");
            due.fault(5, input + "assert @" + Due.times(atom + "||", 6) + atom + "; 1");
            due.compiles(input + Due.times("if " + atom + " then 1 else ", 6) + "2");
            due.fault(5, input + Due.times("if " + atom + " then 1 else ", 6) + "if @" + atom + " then 1 else 2");
            due.compiles(input + Due.times("assert " + atom + ";", 6) + "2");
            due.fault(5, input + Due.times("assert " + atom + ";", 6) + "assert @" + atom + ";2");
        }
        due.fault(5, input + "if @(b||b)&&(1<2||true)&&(b&&(false||b||b)) then 1 else 2");
        due.fault(5, input + "if b&&b&&b then assert b||b; if @b||b then 1 else 2 else 3");
        due.fault(5, input + "if b then if b||b||b||b||b then if @b then 1 else 2 else 3 else 4");
    }

    private static void conditionsAround(Due due) {
        due.sentence("in the conditions that are gone through at one place, all C's of 'if' and 'assert' around it");
        String five = "1=1&&1=1&&1=1&&1=1&&1=1";
        due.fault(5, "if " + five + " then if @true && true then 1 else 2 else 3");
        due.fault(5, "if " + five + " then 1 else if @true && true then 2 else 3");
        due.compiles("if " + five + " then if true then 1 else 2 else if true then 3 else 4");
        due.compiles("assert " + five + "; if true then 1 else 2");
        due.fault(5, "assert " + five + "; if @true||true then 1 else 2");
        due.compiles("let x=(assert " + five + "; 1) in if true||true then 1 else 2");
        due.compiles("let x=(if " + five + " then 1 else 2) in if " + five + " then 1 else 2");
        due.fault(5, "if " + five + " then let x=(if @true||true then 1 else 2) in 3 else 4");
        due.fault(5, "if " + five + " then let rec f x = if @true||true then 1 else 2 in 3 else 4");
        due.fault(5, "if " + five + " then let f=fun x -> if @true||true then 1 else 2 in 3 else 4");
        due.fault(5, "let rec f g = 1 in if " + five + " then f (fun x -> if @true||true then 1 else 2) else 4");
        due.fault(5, "let l=nil in if " + five + " then match l with nil -> (assert @true||true; 1); x t -> 2 else 4");
        due.fault(5, "let l=nil in if " + five + " then match l with nil -> 1; x t -> (assert @true||true; 1) else 4");
        due.sentence("match: the condition size l = 0 (not counted among the 6)");
        due.compiles("let l=nil in if " + five + "&&1=1 then match l with nil -> 1; x t -> match t with nil -> 2; y u -> 3 else 4");
        due.compiles("let l=nil in match l with nil -> (if " + five + "&&1=1 then 1 else 2); x t -> if " + five + "&&1=1 then 1 else 2");
    }

    private static String tree(int height) {
        return height == 0 ? "1" : "if true then " + tree(height - 1) + " else " + tree(height - 1);
    }

    /** TEMPLATES with so many ints (3 to 60): a let is one, a tree of ifs that is h high has 2^h - 1, each if one. */
    private static String full(int ints) {
        String text = "";
        int left = ints;
        for (int height = 5; height > 0; height--) {
            while (left > 1 << height) {
                text += "let p" + text.length() + "=" + tree(height) + " in ";
                left -= 1 << height;
            }
        }
        return text + Due.times("if true then 1 else ", left);
    }

    private static void sixtyInTemplates(Due due) {
        due.sentence("FAULT 5: the 61st int, bool, array or list in all TEMPLATES of a program: at the first word of the E whose TEMPLATE has it");
        due.compiles(full(60) + "1");
        due.fault(5, full(60) + "@if true then 1 else 1");
        due.fault(5, full(60) + "(@let z=1 in 1)");
        due.fault(5, full(60) + "@let z=(if true then 1 else 1) in 1");
        // A CASE or none: each of the four counts once.
        String some = full(58);
        some = some.substring(0, some.lastIndexOf("in ") + 3);
        String[] values = {"1", "true", "new 1", "nil"};
        int left = (full(58).length() - some.length()) / "if true then 1 else ".length();
        for (String value : values) {
            String one = "if true then " + value + " else ";
            due.compiles(some + Due.times(one, left + 2) + value);
            due.fault(5, some + Due.times(one, left + 2) + "@" + one + value);
            due.compiles(some + Due.times(one, left) + "let z=1 in let y=1 in " + value);
            due.fault(5, some + Due.times(one, left) + "let z=1 in let y=1 in @let w=1 in " + value);
        }
        String few = some + Due.times("if true then 1 else ", left - 2);
        due.sentence("let: a TEMPLATE for the whole; let rec: f's type is a TEMPLATE, F as of let");
        due.compiles(few + "let rec f x y = true in 1");
        due.fault(5, few + "@let rec f x y z = true in 1");
        due.fault(5, few + "let rec f x y = true in @let w=1 in 1");
        due.fault(5, few + "let rec f x y = @if true then 1 else 1 in 1");
        due.compiles(few + "let rec f g = g+1 in let w=1 in 1");
        due.fault(5, few + "@let rec f g = g 1 2 3 in 1");
        due.sentence("of a function all ints, bools, arrays and lists of what it takes and of what it answers");
        // q1 has 4, and each of the others two of the one before and 2 more: 10, 22, 46, 94.
        StringBuilder big = new StringBuilder("let q0=1 in ");
        for (int i = 1; i <= 5; i++) {
            big.append("let q").append(i).append("=fun f -> f q").append(i - 1).append(" q").append(i - 1).append(" in ");
        }
        String bigger = big.toString();
        due.fault(5, "@" + bigger + "q5");
        due.fault(5, bigger.replace("let q1", "@let q1") + "q4");
        due.fault(5, bigger.replace("let q2", "@let q2") + "q3");
        due.fault(5, bigger.replace("=fun f -> f q2 q2", "=@fun f -> f q2 q2") + "q2");
        due.fault(5, bigger.replace("=fun f -> f q3 q3", "=@fun f -> f q3 q3") + "q1");
        due.fault(5, bigger.replace("=fun f -> f q3 q3", "=@fun f -> f q3 q3") + "1");
        due.compiles(bigger.substring(0, bigger.indexOf("let q4")) + "1");
        due.sentence("fun: a TEMPLATE, also of an ARG");
        due.compiles(few + "let f=fun x -> 1 in 1");
        due.compiles(few + "let f=fun x -> (if true then 1 else 1) in 1");
        due.fault(5, few + "let f=fun x -> (if true then 1 else @if true then 1 else 1) in 1");
        due.fault(5, few + "let f=@fun x -> fun y -> fun z -> 1 in 1");
        due.fault(5, few + "let f=fun x -> @fun y -> 1 in 1");
        due.fault(5, some + "let rec f g = 1 in " + Due.times("if true then 1 else ", left - 2) + "f (@fun y -> 1)");
        due.sentence("match: a TEMPLATE");
        due.compiles(few + "let l=nil in match l with nil -> 1; x t -> let z=1 in 1");
        due.fault(5, few + "let l=nil in match l with nil -> 1; x t -> let z=1 in let y=1 in @let w=1 in 1");
        due.fault(5, few + "let l=nil in let z=1 in let y=1 in let w=1 in @match l with nil -> 1; x t -> 1");
    }

    private static void argumentForms(Due due) {
        due.sentence("FAULT 5: an ARG '(' S ')' that is not a number, or one NAME plus or minus a number, also with - ahead of it: at its '('");
        String rec = "input x: int; input y: int; input a: array; let l=nil in let rec f p q = 1 in ";
        String[] fine = {"(1)", "(-1)", "(1+2)", "(1-2-3)", "(x)", "(-x)", "(x+1)", "(x-1)", "(1+x)", "(1-x)", "(-x-1)", "(-1-x)", "(x+y-y)",
            "(x+x-x)", "(x-x)", "(y-x+x-y+2)", "(x+y-x+len a-y)", "(x+y-x)", "(len a)", "(-len a)", "(len a-1)", "(size l+1)", "(len a+x-len a)"};
        for (String argument : fine) {
            due.compiles(rec + "f " + argument);
            due.compiles(rec + "f 1 " + argument);
        }
        String[] wrong = {"(x+y)", "(x-y)", "(x+x)", "(-x-x)", "(x+len a)", "(len a+len a)", "(len a-size l)", "(1+x+2+y)", "(x+x+x-x)"};
        for (String argument : wrong) {
            due.fault(5, rec + "f @" + argument);
            due.fault(5, rec + "f 1 @" + argument);
        }
        due.compiles(rec + "x+y+len a");
        due.compiles(rec + "new x+y");
        due.compiles(rec + "a[x+y+len a]");
    }

    private static void orderOfFaults(Due due) {
        due.sentence("1 ahead of 2, 2 ahead of all others; then 3, 4, 5");
        String five = "input x: int; if x+x+x@<1 then ";
        due.fault(5, five + "1 else 2");
        due.fault(4, five.replace("@", "") + "@x 1 else 2");
        due.fault(3, five.replace("@", "") + "x 1 else @y");
        due.fault(2, five.replace("@", "") + "x 1 else y @else");
        due.fault(1, five.replace("@", "") + "x 1 else y else @!");
        due.fault(1, "(@!");
        due.fault(2, "x +@");
        due.fault(2, "y 1 @+");
        due.fault(3, "let b=true in b+@y");
        due.fault(4, "let b=true in @b+1");
        due.fault(4, "input x: int; let rec f p = 1 in let z=f (x+x) in let w=@z 1 in 1");
        due.fault(2, Due.times("(", 31) + "@y" + Due.times(")", 31));
        due.fault(2, "let x=x in 1 @2 3");
    }

    private static void firstOfEach(Due due) {
        due.sentence("the first in the text of each");
        due.fault(1, "@! !");
        due.fault(1, "@abcdefghijklm !");
        due.fault(2, "1 @1 1 in");
        due.fault(3, "@y+z");
        due.fault(3, "let x=1 in let @x=y in z");
        due.fault(4, "input b: bool; @b+b");
        due.fault(4, "input b: bool; if b then len @b else true");
        due.fault(5, "input x: int; if x+x+x@<1 then if x+x+x<2 then 1 else 2 else 3");
        due.fault(5, "input x: int; let rec f p = 1 in if x+x+x@<1 then f (x+x) else 3");
        due.fault(5, "input x: int; let rec f p = 1 in let y=f @(x+x) in if x+x+x<1 then 1 else 3");
        due.fault(5, "input x: int; let rec f p = 1 in let y=f @(x+x) in if true&&true&&true&&true&&true&&true&&true then 1 else 3");
        due.fault(5, "input x: int; if @true&&true&&true&&true&&true&&true&&x+x+x<1 then 1 else 3");
        due.fault(5, "input x: int; if x+x+x@<1&&true&&true then if true&&true&&true&&true then 1 else 2 else 3");
        due.fault(5, "input x: int; let y=(if x+x+x@<1 then 1 else 2) in " + full(60) + "1");
        due.fault(5, full(60) + "@if 1=1&&1=1 then 1 else 2");
        due.fault(5, "input x: int; " + full(59) + "let y=1 in @if x+x+x<1 then 1 else 2");
    }

    private static void values(Due due) {
        due.sentence("/ and % go downwards (x = y * (x / y) + x % y, x % y between 0 and y, or y and 0 if y is below 0)");
        for (int x = -13; x <= 13; x++) {
            for (int y = -6; y <= 6; y++) {
                if (y != 0) {
                    int quotient = (int) Math.floor((double) x / y);
                    due.gives("input x: int; input y: int; x/y", quotient, x, y);
                    due.gives("input x: int; input y: int; x%y", x - y * quotient, x, y);
                }
            }
        }
        due.sentence("The VALUES of S: what it means");
        due.gives("input x: int; input y: int; input z: int; x+y-x+z", 110, 1, 10, 100);
        due.gives("input x: int; input y: int; input z: int; x+x+x-y-y+z-7", -4, 1, 50, 100);
        due.gives("input x: int; input y: int; input z: int; -x+y-z", -91, 1, 10, 100);
        due.gives("input x: int; input a: array; let l=nil in let m=cons 1 l in x-len a+size m-len a", 6, 15, 5);
        due.sentence("new n: n elements, 0 all. a[i]: element i, 0 the first");
        due.gives("let a=new 0 in len a", 0);
        due.gives("let a=new 3 in len a", 3);
        due.gives("let a=new 3 in let x=a[0] in let y=a[1] in let z=a[2] in x+y+z", 0);
        due.gives("let a=new 2 in set a[0]=5; set a[1]=7; a[0]", 5);
        due.gives("let a=new 2 in set a[0]=5; set a[1]=7; a[1]", 7);
        due.sentence("set changes it, for all that have the array");
        due.gives("let a=new 1 in let b=a in let rec f c = set c[0]=9; 1 in let x=f a in b[0]", 9);
        due.gives("let a=new 1 in let b=new 1 in set a[0]=4; b[0]", 0);
        due.gives("let a=new 1 in let f=fun x -> a[0] in set a[0]=4; f 1", 4);
        due.sentence("size is how many ints a list has; match does the first E for nil, else the last one");
        due.gives("let l=nil in size l", 0);
        due.gives("let l=nil in let m=cons 4 l in let n=cons 5 m in size l+size m+size n+size n", 5);
        due.gives("let l=nil in match l with nil -> 8; x t -> 9", 8);
        due.gives("let l=nil in let m=cons 4 l in match m with nil -> 8; x t -> 9", 9);
        due.gives("let l=nil in let m=cons 4 l in let n=cons 5 m in match n with nil -> 8; x t -> x+size t", 6);
        due.sentence("'true', 'false' as an E and as an ARG");
        due.gives("let rec f b = if b then 3 else 4 in f true", 3);
        due.gives("let rec f b = if b then 3 else 4 in f false", 4);
        due.gives("let rec f b c = b in f true false", 1);
        due.gives("let rec f b c = b in f false true", 0);
        due.sentence("Functions may be told with fewer ARGS, and are values");
        due.gives("let rec f x y = x-y in let g=f 9 in let h=f 5 in let a=g 1 in let b=h 1 in a-b", 4);
        due.gives("let rec f x y = x-y in f 9", 0);
        due.gives("let rec f x y = x-y in let rec g h = h 3 in g f", 0);
        due.gives("let rec f x y = x-y in let rec twice h z = let y=h z in h y in let g=f 9 in twice g 2", 2);
    }
}
