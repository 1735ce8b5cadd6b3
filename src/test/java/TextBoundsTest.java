/** Part I of the document, sentence by sentence: the last text that is taken, and the first that is not. */
public final class TextBoundsTest {
    private static final String[] KEYWORDS = ("array assert bool cons else false fun if in input int len let list match new "
            + "nil not qual rec set size then true v with").split(" ");
    private static final String SINGLE_SIGNS = "()[],;:=#<>+-*/%";

    public static void main(String[] args) {
        Due due = new Due("TextBoundsTest");
        length(due);
        names(due);
        keywords(due);
        numbers(due);
        bytes(due);
        longestSigns(due);
        parting(due);
        quals(due);
        inputs(due);
        functions(due);
        expressions(due);
        sums(due);
        arguments(due);
        conditions(due);
        truthTables(due);
        depthOfExpressions(due);
        depthOfConditions(due);
        depthOfArguments(due);
        due.close();
    }

    private static void length(Due due) {
        due.sentence("A text has at most 2000 bytes");
        due.gives(Due.times(" ", 1999) + "7", 7);
        due.gives(Due.times("1+", 999) + "10", 1009);
        due.fault(2, Due.times(" ", 1998) + "1+@");
        due.fault(2, Due.times(" ", 1997) + "1 @2");
        due.fault(1, Due.times(" ", 1999) + "@$");
        due.fault(2, Due.times(" ", 2000) + "@");
        due.fault(2, "@");
    }

    private static void names(Due due) {
        due.sentence("NAMES: a letter a .. z first");
        for (char letter = 'a'; letter <= 'z'; letter++) {
            if (letter != 'v') {
                due.gives("let " + letter + "=5 in " + letter, 5);
            }
        }
        for (char other : "_AZ{`'.!\177".toCharArray()) {
            due.fault(1, "let @" + other + "x=1 in 2");
        }
        due.fault(2, "let @0x=1 in 2");
        due.sentence("NAMES: then these letters, digits, _");
        for (char letter : "abcdefghijklmnopqrstuvwxyz0123456789_".toCharArray()) {
            due.gives("let y" + letter + "=5 in y" + letter, 5);
        }
        for (char other : "AZ{`'.!\177".toCharArray()) {
            due.fault(1, "let x@" + other + "=1 in 2");
        }
        due.sentence("NAMES: at most 10");
        due.gives("let abcdefghij=1 in let abcdefghik=3 in abcdefghij-abcdefghik", -2);
        due.gives("let a_________=1 in let a________9=3 in a_________-a________9", -2);
        due.fault(1, "let @abcdefghijk=1 in 2");
        due.fault(1, "let x=1 in @a__________");
        due.fault(1, "let x=1 in x+@a1234567890");
        due.fault(1, "@" + Due.times("x", 2000));
    }

    private static void keywords(Due due) {
        due.sentence("NAMES: not one of: array assert ..");
        for (String word : KEYWORDS) {
            due.fault(2, word.equals("rec") ? "let rec@=1 in 2" : "let @" + word + "=1 in 2");
            due.fault(2, "fun @" + word + " -> 1");
            due.fault(2, "input @" + word + ": int; 1");
            due.gives("let " + word + "x=1 in let " + word + "_=2 in let " + word + "1=3 in " + word + "x-" + word + "_-" + word + "1",
                    -4);
            due.gives("let x" + word + "=7 in x" + word, 7);
        }
    }

    private static void numbers(Due due) {
        due.sentence("NUMBERS: 1 to 4 digits");
        due.gives("0", 0);
        due.gives("9", 9);
        due.gives("10", 10);
        due.gives("999", 999);
        due.gives("9999", 9999);
        due.gives("0000", 0);
        due.gives("0010", 10);
        due.fault(1, "@00000");
        due.fault(1, "@10000");
        due.fault(1, "1+@00001");
        due.fault(1, "qual int: v<@12345; 1");
        due.fault(2, "1234 @5");
    }

    /** What each of the 256 bytes is where a word may begin. */
    private static void bytes(Due due) {
        for (int b = 0; b < 256; b++) {
            String text = "1 " + (char) b;
            LiquidTongue tongue = new LiquidTongue();
            boolean parts = b == 32 || b == 10;
            boolean word = b >= 'a' && b <= 'z' || b >= '0' && b <= '9' || SINGLE_SIGNS.indexOf((char) b) >= 0;
            boolean joins = b == '+' || b == '-' || b == '*' || b == '/' || b == '%';
            due.sentence(parts ? "Bytes 32, 10 part them" : word ? "words and signs" : "FAULT 1: a byte that is none (at it)");
            due.is("compile() of byte " + b, Due.compile(tongue, text), parts ? 0 : word ? 2 : 1);
            due.is("place() of byte " + b, tongue.place(), parts ? -1 : joins ? 3 : 2);
        }
    }

    private static void longestSigns(Due due) {
        due.sentence("signs (the longest counts)");
        due.gives("if 1<=1 then 1 else 0", 1);
        due.gives("if 1>=1 then 1 else 0", 1);
        due.fault(2, "if 1< @=1 then 1 else 0");
        due.fault(2, "if 1> @=1 then 1 else 0");
        due.fault(2, "if 1=@<1 then 1 else 0");
        due.fault(2, "if 1=@>1 then 1 else 0");
        due.fault(2, "if 1<@>1 then 1 else 0");
        due.gives("if 1>-1 then 1 else 0", 1);
        due.gives("if 1<-1 then 1 else 0", 0);
        due.gives("let f=fun x->-x in f 3", -3);
        due.fault(2, "let f=fun x @- >x in 1");
        due.fault(2, "let x=1 in x@->2");
        due.fault(2, "let x=1 in if x@->2 then 1 else 2");
        due.fault(1, "if true @& & true then 1 else 0");
        due.fault(1, "if true @| | true then 1 else 0");
        due.fault(1, "if true &&@& true then 1 else 0");
        due.fault(1, "if true ||@| true then 1 else 0");
        due.fault(1, "if true @|& true then 1 else 0");
        due.fault(1, "1 @&");
        due.fault(1, "1 @|");
        due.fault(2, "1-@");
        due.fault(2, "if 1<@");
        due.fault(2, "if 1>@");
    }

    private static void parting(Due due) {
        due.sentence("Bytes 32, 10 part them");
        due.gives("let\nx\n=\n1\nin\nlet y=2 in x - y", -1);
        due.gives("\n \nlet rec f x=x in(f(3))\n ", 3);
        due.gives("let letx=4 in letx", 4);
        due.fault(2, "1 @2");
        due.fault(2, "1\n@2");
        due.fault(2, "let x=1 in 2 \n@x");
        due.fault(1, "let@\tx=1 in x");
        due.fault(1, "1@\r");
    }

    private static void quals(Due due) {
        due.sentence("QUAL: 'qual' ( 'int' | 'array' | 'list' ) ':' 'v' REL [ '-' ] ( NUMBER | '*' [ ( '+' | '-' ) NUMBER ] ) ';'");
        String[] terms = {"7", "-7", "*", "-*", "*+7", "*-7", "-*+7", "-*-7"};
        for (String base : new String[] {"int", "array", "list"}) {
            for (String rel : new String[] {"=", "<", "<=", ">", ">="}) {
                for (String term : terms) {
                    due.compiles("qual " + base + ":v" + rel + term + ";1");
                }
            }
        }
        due.fault(2, "qual @: v<1; 1");
        due.fault(2, "qual @bool: v<1; 1");
        due.fault(2, "qual @x: v<1; 1");
        due.fault(2, "qual int @v<1; 1");
        due.fault(2, "qual int: @x<1; 1");
        due.fault(2, "qual int: @1<v; 1");
        due.fault(2, "qual int: v @1; 1");
        due.fault(2, "qual int: v@#1; 1");
        due.fault(2, "qual int: v<@; 1");
        due.fault(2, "qual int: v<-@-1; 1");
        due.fault(2, "qual int: v<@+1; 1");
        due.fault(2, "qual int: v<1@+*; 1");
        due.fault(2, "qual int: v<1@+1; 1");
        due.fault(2, "qual int: v<*@*; 1");
        due.fault(2, "qual int: v<*+@; 1");
        due.fault(2, "qual int: v<*+@-1; 1");
        due.fault(2, "qual int: v<*+1@+1; 1");
        due.fault(2, "qual int: v<@x; 1");
        due.fault(2, "qual int: v<1 @1");
        due.fault(2, "qual int: v<1;@");
        due.fault(2, "qual int: v<@");
        due.sentence("QUAL (at most 6)");
        String[] bases = {"int", "array", "list"};
        StringBuilder six = new StringBuilder();
        for (int i = 0; i < 6; i++) {
            six.append("qual ").append(bases[i % 3]).append(": v>=").append(i).append(";");
        }
        due.judged(six + "1");
        due.fault(2, six + "@qual int: v<1; 1");
        due.fault(2, six + "@qual list: v<*; 1");
        due.fault(2, six + "@qual");
    }

    private static void inputs(Due due) {
        due.sentence("INPUT: 'input' NAME ':' ( 'int' | 'bool' | 'array' ) ';'");
        due.judged("input x: int; 1");
        due.judged("input x: bool; 1");
        due.judged("input x: array; 1");
        due.fault(2, "input x: @list; 1");
        due.fault(2, "input x: @y; 1");
        due.fault(2, "input x: @; 1");
        due.fault(2, "input x @int; 1");
        due.fault(2, "input @: int; 1");
        due.fault(2, "input @1: int; 1");
        due.fault(2, "input x: int @1");
        due.fault(2, "input x: int;@");
        due.sentence("PROGRAM: { QUAL } { INPUT } E");
        due.judged("qual int: v<1; input x: int; 1");
        due.fault(2, "input x: int; @qual int: v<1; 1");
        due.fault(2, "1 @input x: int;");
        due.fault(2, "1 @qual int: v<1;");
        due.fault(2, "1@;");
        due.sentence("INPUT (at most 6)");
        StringBuilder six = new StringBuilder();
        for (int i = 0; i < 6; i++) {
            six.append("input x").append(i).append(i % 3 == 0 ? ": int;" : i % 3 == 1 ? ": bool;" : ": array;");
        }
        due.judged(six + "1");
        due.fault(2, six + "@input y: int; 1");
        due.fault(2, six + "@input");
        due.judged(Due.times("qual int: v<1;", 6) + six + "1");
    }

    private static void functions(Due due) {
        due.sentence("'let' 'rec' NAME NAME { NAME } '=' E 'in' E (1 to 4 NAMES behind the first)");
        due.fault(2, "let rec f @= 1 in 2");
        due.fault(2, "let rec @= 1 in 2");
        due.gives("let rec f a = a in f 1", 1);
        due.gives("let rec f a b = a-b in f 1 2", -1);
        due.gives("let rec f a b c = a-b-c in f 1 2 3", -4);
        due.gives("let rec f a b c d = a-b-c-d in f 1 2 3 4", -8);
        due.fault(2, "let rec f a b c d @e = 1 in 2");
        due.fault(2, "let rec f a @1 = 1 in 2");
        due.fault(2, "let f @a = 1 in 2");
        due.sentence("NAME ARG { ARG } (1 to 4)");
        due.fault(2, "let rec f a b c d = 1 in f 1 2 3 4 @5");
        due.fault(2, "let rec f a b c d = 1 in f 1 2 3 4 @x");
        due.fault(2, "let rec f a b c d = 1 in f 1 2 3 4 @(5)");
        due.fault(2, "let rec f a b c d = 1 in f 1 2 3 4 @true");
        due.fault(2, "let rec f a b c d = fun e -> 1 in f 1 2 3 4 @5");
        due.gives("let rec f a b c d = fun e -> a-e in let g=f 1 2 3 4 in g 5", -4);
    }

    private static void expressions(Due due) {
        due.sentence("E: as told, FAULT 2 at the word");
        String[] texts = {"let x @1 in 2", "let x=@in 2", "let x=1 @2", "let x=1 in@", "let @1=1 in 2", "fun @-> 1", "fun x @1",
            "fun x ->@", "fun x @y -> 1", "if @then 1 else 2", "if true @1 else 2", "if true then @else 2", "if true then 1 @2",
            "if true then 1@", "if true then 1 else@", "assert @; 1", "assert true @1", "assert true;@", "let a=new 1 in set @1[0]=1; 1",
            "let a=new 1 in set a@=1; 1", "let a=new 1 in set a[@]=1; 1", "let a=new 1 in set a[0@=1; 1", "let a=new 1 in set a[0] @1; 1",
            "let a=new 1 in set a[0]=@; 1", "let a=new 1 in set a[0]=1 @1", "let a=new 1 in set a[0]=1;@", "new@", "new @nil", "new 1 @2",
            "new @(1)", "nil @1", "cons @", "cons 1@", "cons 1 @2", "cons 1 @nil", "cons @(1) l", "let l=nil in match @1 with nil -> 1; x t -> 2",
            "let l=nil in match l @nil -> 1; x t -> 2", "let l=nil in match l with @x -> 1; x t -> 2", "let l=nil in match l with nil @1; x t -> 2",
            "let l=nil in match l with nil -> 1 @x t -> 2", "let l=nil in match l with nil -> 1; @-> 2",
            "let l=nil in match l with nil -> 1; x @-> 2", "let l=nil in match l with nil -> 1; x t @2",
            "let l=nil in match l with nil -> 1; x t @u -> 2", "let l=nil in match l with nil -> 1; x t ->@",
            "let l=nil in match l with nil -> 1@", "true @1", "false @&& true", "(1@", "(@)", "((1)@", "1@)", "(1)@*2", "2*@(1)", "1*2@*3",
            "1*2+3@*4", "1/@", "1%@;", "1*@nil", "let a=new 1 in a[@]", "let a=new 1 in a[0@", "let a=new 1 in a[0]@+1",
            "let a=new 1 in a[0]@[0]", "let a=new 1 in -a@[0]", "let a=new 1 in 1+a@[0]", "@=", "@,", "@v", "@in", "@;"};
        for (String text : texts) {
            due.fault(2, text);
        }
        due.sentence("as an E a C stands in 'if' and 'assert' alone");
        due.fault(2, "1@<2");
        due.fault(2, "let x=1@=1 in 2");
        due.fault(2, "(1@#2)");
        due.fault(2, "@not true");
        due.fault(2, "true@||false");
        due.fault(2, "let b=true in b @&& b");
        due.fault(2, "if true then 1@<2 else true");
    }

    private static void sums(Due due) {
        due.sentence("S: [ '-' ] PART { ( '+' | '-' ) PART }");
        due.gives("-1", -1);
        due.gives("-1-2+3-4", -4);
        due.gives("2+1*2+3", 15);
        due.fault(2, "@+1");
        due.fault(2, "-@-1");
        due.fault(2, "1-@-1");
        due.fault(2, "1+@-1");
        due.fault(2, "1+@");
        due.fault(2, "1+@(2)");
        due.fault(2, "1+@true");
        due.sentence("PART: NUMBER | NAME | 'len' NAME | 'size' NAME");
        due.gives("let a=new 4 in let l=nil in let m=cons 1 l in 10-len a-size m", 5);
        due.fault(2, "len @1");
        due.fault(2, "size @nil");
        due.fault(2, "len@");
        due.fault(2, "let a=new 1 in len @len a");
        due.fault(2, "let a=new 1 in len @(a)");
        due.fault(2, "let a=new 1 in len a @a");
    }

    private static void arguments(Due due) {
        due.sentence("ARG: NUMBER | NAME | '(' S ')' | '(' 'fun' NAME '->' E ')' | 'true' | 'false'");
        String rec = "let rec f a = 1 in ";
        due.judged(rec + "f 1");
        due.judged(rec + "let y=1 in f y");
        due.judged(rec + "f (-1)");
        due.judged(rec + "f (fun y -> y)");
        due.judged(rec + "f true");
        due.judged(rec + "f false");
        due.fault(2, rec + "f @nil");
        due.fault(2, rec + "f @fun y -> y");
        due.fault(2, rec + "f @len");
        due.fault(2, rec + "f @new 1");
        due.fault(2, rec + "f (@)");
        due.fault(2, rec + "f (@true)");
        due.fault(2, rec + "f (@nil)");
        due.fault(2, rec + "f (@(1))");
        due.fault(2, rec + "f (f @1)");
        due.fault(2, rec + "f (1@*2)");
        due.fault(2, rec + "f (1@<2)");
        due.fault(2, rec + "f (1@");
        due.fault(2, rec + "f (fun @1 -> 1)");
        due.fault(2, rec + "f (fun y @1)");
        due.fault(2, rec + "f (fun y -> 1@");
        due.fault(2, rec + "f 1@+1");
        due.fault(4, rec + "@f -1");
    }

    private static void conditions(Due due) {
        due.sentence("C: D { '||' D }; D: F { '&&' F }; F: 'not' F | '(' C ')' | 'true' | 'false' | NAME | S ( REL | '#' ) S");
        String[] texts = {"if true || @then 1 else 2", "if true && @then 1 else 2", "if not @then 1 else 2", "if (true @then 1 else 2",
            "if (@) then 1 else 2", "if true @true then 1 else 2", "if 1 @then 1 else 2", "if 1< @then 1 else 2",
            "if 1<2@<3 then 1 else 2", "if (1@)<2 then 1 else 2", "if 1<@(2) then 1 else 2", "if true@=true then 1 else 2",
            "if 1=@true then 1 else 2", "if @nil then 1 else 2", "if @&& true then 1 else 2", "if not (true) @not true then 1 else 2",
            "if @let then 1 else 2", "assert 1@; 1", "assert 1+2@; 1", "if 2@*3<1 then 1 else 2"};
        for (String text : texts) {
            due.fault(2, text);
        }
        due.sentence("An S that is read as far as it goes and has a REL or # behind is one of C");
        String input = "input b: bool; input x: int; ";
        due.compiles(input + "if b then 1 else 2");
        due.compiles(input + "if x+1-2<3 then 1 else 2");
        due.compiles(input + "if -x#3 then 1 else 2");
        due.fault(2, input + "if b+1 @then 1 else 2");
        due.fault(2, input + "if -b @then 1 else 2");
        due.fault(2, input + "if len b @then 1 else 2");
        due.fault(2, input + "if b @x then 1 else 2");
        due.fault(2, input + "if b@[0]<1 then 1 else 2");
        due.fault(2, input + "if b @(1) then 1 else 2");
    }

    private static void truthTables(Due due) {
        due.sentence("C: D { '||' D }; D: F { '&&' F }; F: 'not' F");
        String input = "input a: bool; input b: bool; input c: bool; if ";
        for (int i = 0; i < 8; i++) {
            boolean a = (i & 1) != 0;
            boolean b = (i & 2) != 0;
            boolean c = (i & 4) != 0;
            String[] texts = {"a||b&&c", "a&&b||c", "(a||b)&&c", "not a&&b", "not(a&&b)", "not a||b", "not not a", "a||b||c", "a&&b&&c",
                "not(a||b)&&not c"};
            boolean[] holds = {a || b && c, a && b || c, (a || b) && c, !a && b, !(a && b), !a || b, a, a || b || c, a && b && c,
                !(a || b) && !c};
            for (int k = 0; k < texts.length; k++) {
                due.gives(input + texts[k] + " then 1 else 0", holds[k] ? 1 : 0, i & 1, i & 2, i & 4);
            }
        }
    }

    private static String deep(int depth, String text) {
        return Due.times("(", depth) + text + Due.times(")", depth);
    }

    private static void depthOfExpressions(Due due) {
        due.sentence("Parts stand at most 30 deep: the program's E is 0 deep, each E within an E 1 more; 31 deep is a FAULT at its first word");
        // Each ? is an E within one that is 28 deep: 1 more for the E, and 1 for each ( ) around what stands in it.
        String[] forms = {"(?)", "let x=? in 2", "let x=1 in ?", "let rec f x = ? in 2", "let rec f x = 1 in ?", "fun x -> ?",
            "if true then ? else 2", "if true then 1 else ?", "assert true; ?"};
        for (String form : forms) {
            due.judged(deep(28, form.replace("?", "(1)")));
            due.fault(2, deep(28, form.replace("?", "((@1))")));
        }
        String[] innerForms = {"let a=new 1 in set a[0]=1; ?", "let l=nil in match l with nil -> ?; x t -> 2",
            "let l=nil in match l with nil -> 1; x t -> ?"};
        for (String form : innerForms) {
            due.judged(deep(27, form.replace("?", "(1)")));
            due.fault(2, deep(27, form.replace("?", "((@1))")));
        }
        due.judged(deep(30, "1*2"));
        due.judged(deep(30, "new 1"));
        due.fault(2, deep(31, "@1*2"));
        due.fault(2, deep(31, "@let x=1 in 2"));
        due.fault(2, deep(31, "@nil"));
        due.fault(2, Due.times("(", 31) + "@");
        due.fault(2, Due.times("(", 31) + "@(" + Due.times("(", 900));
        // No deeper than what is around: one behind the other may be as many as there is room for.
        due.judged("let x=" + deep(29, "1") + " in let y=" + deep(28, "1") + " in " + deep(28, "x"));
    }

    private static void depthOfConditions(Due due) {
        due.sentence("each F behind 'not' or in ( ) 1 more; 31 deep is a FAULT at its first word");
        String[] ends = {" then 1 else 2", "; 1"};
        for (int i = 0; i < 2; i++) {
            String start = i == 0 ? "if " : "assert ";
            due.compiles(start + deep(30, "true") + ends[i]);
            due.fault(2, start + deep(31, "@true") + ends[i]);
            due.compiles(start + Due.times("not ", 30) + "true" + ends[i]);
            due.fault(2, start + Due.times("not ", 31) + "@true" + ends[i]);
            due.compiles(start + Due.times("not(", 15) + "1<2" + Due.times(")", 15) + ends[i]);
            due.fault(2, start + Due.times("not(", 15) + "not @1<2" + Due.times(")", 15) + ends[i]);
            due.fault(2, start + deep(30, "(@1<2)") + ends[i]);
            due.compiles(start + "true && 1<2 || " + deep(30, "true || true && 1<2") + ends[i]);
            due.fault(2, start + "true && 1<2 || " + deep(30, "true || true && not @1<2") + ends[i]);
            due.compiles(deep(29, start + "not true" + ends[i]));
            due.fault(2, deep(29, start + "not not @true" + ends[i]));
            due.fault(2, deep(29, start + "((@true))" + ends[i]));
        }
        due.compiles("if true then if not " + deep(28, "true") + " then 1 else 2 else 3");
        due.fault(2, "if true then if not " + deep(29, "@true") + " then 1 else 2 else 3");
    }

    private static void depthOfArguments(Due due) {
        due.sentence("each E within an E 1 more (an ARG's fun, too, and its E 1 more again)");
        String rec = "let rec f g = 1 in ";
        due.judged(rec + deep(27, "f (fun x -> x)"));
        due.fault(2, rec + deep(28, "f (fun x -> @x)"));
        due.fault(2, rec + deep(29, "f (@fun x -> x)"));
        due.judged(rec + deep(26, "f (fun x -> (x))"));
        due.fault(2, rec + deep(26, "f (fun x -> ((@x)))"));
        // An ARG that is no fun is no E, so it is no deeper.
        due.judged(rec + deep(29, "f (1)"));
        due.fault(2, rec + deep(30, "@f (1)"));
    }
}
