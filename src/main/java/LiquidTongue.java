import java.util.ArrayList;
import java.util.Arrays;

/**
 * A small language whose types are found together with what is known of each value, and a machine that runs its
 * programs. The numbered promises of the document say what each public method answers.
 */
public final class LiquidTongue {
    private static final int TAPE_LIMIT = 2000;
    private static final int FEED_BYTES = 20;
    private static final int OUT_LIMIT = 16000;
    private static final int MOST_FUEL = 20000;
    private static final int MOST_QUALS = 6;
    private static final int MOST_INPUTS = 6;
    private static final int MOST_NAMES = 12;
    private static final int MOST_ARGUMENTS = 4;
    private static final int MOST_CONDITIONS = 6;
    private static final int MOST_LEAVES = 60;
    private static final int DEEPEST = 30;
    private static final int LONGEST_NAME = 10;
    private static final int LONGEST_NUMBER = 4;
    /** Far above the rounds that any loop without a limit of the document can need. */
    private static final int FAR = 1000000;

    /** Kinds of words. A sign of one character is its own kind; a node that a word begins has that word's kind. */
    private static final int END = 0;
    private static final int NAME = 1;
    private static final int NUMBER = 2;
    private static final String SIGNS = "()[],;:=#<>+-*/%";
    /** Each keyword has a blank behind it; the first one's kind is ARRAY, and so on. */
    private static final String KEYWORDS =
            "array assert bool cons else false fun if in input int len let list match new nil not qual rec set size then true v with ";
    private static final int ARRAY = 200;
    private static final int ASSERT = 201;
    private static final int BOOL = 202;
    private static final int CONS = 203;
    private static final int ELSE = 204;
    private static final int FALSE = 205;
    private static final int FUN = 206;
    private static final int IF = 207;
    private static final int IN = 208;
    private static final int INPUT = 209;
    private static final int INT = 210;
    private static final int LEN = 211;
    private static final int LET = 212;
    private static final int LIST = 213;
    private static final int MATCH = 214;
    private static final int NEW = 215;
    private static final int NIL = 216;
    private static final int NOT = 217;
    private static final int QUAL = 218;
    private static final int REC = 219;
    private static final int SET = 220;
    private static final int SIZE = 221;
    private static final int THEN = 222;
    private static final int TRUE = 223;
    private static final int V = 224;
    private static final int WITH = 225;
    private static final int LE = 300;
    private static final int GE = 301;
    private static final int AND = 302;
    private static final int OR = 303;
    private static final int ARROW = 304;
    /** Kinds of nodes that no word of their own begins. */
    private static final int SUM = 400;
    private static final int CALL = 401;
    private static final int TRUTH = 402;
    private static final int COMPARE = 403;
    /** The kind of a type that nothing is known of; the other types have their words' kinds. */
    private static final int FREE = 0;

    /** The kinds of FAULTS. */
    private static final int BAD_WORD = 1;
    private static final int BAD_GRAMMAR = 2;
    private static final int BAD_NAME = 3;
    private static final int BAD_TYPE = 4;
    private static final int BAD_FORM = 5;

    private final byte[] tape = new byte[TAPE_LIMIT];
    private int tapeLength;
    /** The program that is the one now, or null; its types and verdict stand or fall with it. */
    private Parser program;
    private Typer types;
    /** Null until accepted() is asked, as type() must tell whether it was. */
    private Checker checker;
    private int place = -1;
    /** A type is written to the draft first, because a too long one must leave the OUT as it is. */
    private byte[] out = new byte[128];
    private byte[] draft = new byte[128];
    private int outLength;
    private int draftLength;
    private final ArrayList<Name> nameless = new ArrayList<>();
    private final Judge judge = new Judge();
    private final Machine machine = new Machine();

    public LiquidTongue() {
    }

    public boolean feed(int a, int b, int c, int d, int e) {
        if (tapeLength > TAPE_LIMIT - FEED_BYTES) {
            return false;
        }
        lay(a);
        lay(b);
        lay(c);
        lay(d);
        lay(e);
        return true;
    }

    private void lay(int number) {
        for (int shift = 24; shift >= 0 && tapeLength < TAPE_LIMIT; shift -= 8) {
            tape[tapeLength] = (byte) (number >> shift);
            tapeLength++;
        }
    }

    public boolean end(int n) {
        if (n < 0 || n > tapeLength) {
            return false;
        }
        tapeLength = n;
        return true;
    }

    public int compile() {
        char[] letters = new char[tapeLength];
        for (int i = 0; i < tapeLength; i++) {
            letters[i] = (char) (tape[i] & 255);
        }
        tapeLength = 0;
        program = null;
        types = null;
        checker = null;
        place = -1;
        machine.forget();
        // The kinds of FAULTS are looked for in their order, so the first that is found is the one to tell.
        Words words = new Words(new String(letters));
        if (words.bad >= 0) {
            return fault(BAD_WORD, words.bad);
        }
        Parser parser = new Parser(words);
        parser.readProgram();
        if (parser.fault >= 0) {
            return fault(BAD_GRAMMAR, parser.fault);
        }
        if (parser.nameFault >= 0) {
            return fault(BAD_NAME, parser.nameFault);
        }
        Typer typer = new Typer(words.count);
        typer.findAll(parser);
        if (typer.fault >= 0) {
            return fault(BAD_TYPE, typer.fault);
        }
        parser.blameForm(typer.overfull);
        if (parser.formFault >= 0) {
            return fault(BAD_FORM, parser.formFault);
        }
        program = parser;
        types = typer;
        machine.take(parser, typer.kindOf(parser.root.type));
        return 0;
    }

    private int fault(int kind, int where) {
        place = where;
        return kind;
    }

    public int accepted() {
        if (program == null) {
            return -1;
        }
        if (checker == null) {
            checker = new Checker(program, types, judge);
            checker.gather();
            checker.weakenAll();
            checker.findDoubt();
        }
        place = checker.firstDoubt;
        return place < 0 ? 1 : 0;
    }

    public int place() {
        return place;
    }

    public int type(int k) {
        if (program == null || checker == null || k < 0 || k >= program.told.size()) {
            return -1;
        }
        draftLength = 0;
        nameless.clear();
        tell(program.told.get(k).known, 0);
        if (draftLength > OUT_LIMIT) {
            return -1;
        }
        byte[] old = out;
        out = draft;
        draft = old;
        outLength = draftLength;
        return outLength;
    }

    /** Only parameters that are functions go a level deeper, and MOST_LEAVES keeps those few. */
    private void tell(Known known, int depth) {
        Known rest = known;
        for (int i = 0; i <= MOST_LEAVES && rest != null && rest.kind == FUN; i++) {
            Known taken = rest.taken();
            tellName(rest.origin.parameter);
            put(':');
            if (taken.kind == FUN && depth <= MOST_LEAVES) {
                put('(');
                tell(taken, depth + 1);
                put(')');
            } else {
                tellLeaf(taken);
            }
            put("->");
            rest = rest.answered(null);
        }
        if (rest != null) {
            tellLeaf(rest);
        }
    }

    private void tellLeaf(Known leaf) {
        for (int i = 0; i < leaf.origin.count; i++) {
            leaf.recall(i);
            put(i == 0 ? "{v" : "&v");
            tellRelation(leaf.rel);
            tellTerm(leaf);
        }
        if (leaf.origin.count > 0) {
            put('}');
        }
        put(leaf.kind == BOOL ? "bool" : leaf.kind == ARRAY ? "array" : leaf.kind == LIST ? "list" : "int");
    }

    private void tellRelation(int rel) {
        if (rel == LE || rel == GE) {
            put(rel == LE ? "<=" : ">=");
        } else {
            put((char) rel);
        }
    }

    private void tellTerm(Known leaf) {
        if (leaf.name == null) {
            tellNumber(leaf.plus);
            return;
        }
        if (leaf.times < 0) {
            put('-');
        }
        put(leaf.name.base == ARRAY ? "len " : leaf.name.base == LIST ? "size " : "");
        tellName(leaf.name);
        if (leaf.plus > 0) {
            put('+');
        }
        if (leaf.plus != 0) {
            tellNumber(leaf.plus);
        }
    }

    private void tellName(Name name) {
        if (name.text != null) {
            put(name.text);
            return;
        }
        int number = 0;
        while (number < nameless.size() && nameless.get(number) != name) {
            number++;
        }
        if (number == nameless.size()) {
            nameless.add(name);
        }
        put('$');
        tellNumber(number);
    }

    private void tellNumber(long number) {
        if (number < 0) {
            put('-');
        }
        long size = Math.abs(number);
        long unit = 1;
        for (int i = 0; i < 18 && size / unit >= 10; i++) {
            unit *= 10;
        }
        for (; unit > 0; unit /= 10) {
            put((char) ('0' + size / unit % 10));
        }
    }

    private void put(String text) {
        for (int i = 0; i < text.length(); i++) {
            put(text.charAt(i));
        }
    }

    private void put(char letter) {
        if (draftLength == draft.length && draftLength < OUT_LIMIT) {
            draft = Arrays.copyOf(draft, Math.min(2 * draftLength, OUT_LIMIT));
        }
        if (draftLength < draft.length) {
            draft[draftLength] = (byte) letter;
        }
        draftLength++;
    }

    public int out(int i) {
        if (i == -1) {
            return outLength;
        }
        return i >= 0 && i < outLength ? out[i] & 255 : -1;
    }

    public boolean give(int i, int v) {
        return program != null && i >= 0 && i < program.inputCount && machine.set(i, program.told.get(i).base, v);
    }

    public boolean element(int i, int k, int v) {
        return program != null && i >= 0 && i < program.inputCount && program.told.get(i).base == ARRAY
                && machine.setElement(i, k, v);
    }

    public int run(int fuel) {
        if (program == null || fuel < 0 || fuel > MOST_FUEL) {
            return -1;
        }
        return machine.go(fuel);
    }

    public long value() {
        return machine.gave;
    }

    public int fuel() {
        return machine.took;
    }

    /** The words of a text in their order, and behind them one of kind END at the text's end. */
    private static final class Words {
        final String text;
        final int[] kinds;
        final int[] places;
        final int[] ends;
        int count;
        /** The place of the first byte or word that is none, or -1. */
        int bad = -1;

        Words(String text) {
            this.text = text;
            kinds = new int[text.length() + 1];
            places = new int[text.length() + 1];
            ends = new int[text.length() + 1];
            split();
        }

        private void split() {
            for (int at = 0; at < text.length() && bad < 0; at++) {
                char letter = text.charAt(at);
                if (letter != ' ' && letter != '\n') {
                    int end = endOfWord(at);
                    if (end > at) {
                        add(at, end);
                        at = end - 1;
                    } else {
                        bad = at;
                    }
                }
            }
            places[count] = text.length();
            ends[count] = text.length();
        }

        private void add(int from, int to) {
            char first = text.charAt(from);
            places[count] = from;
            ends[count] = to;
            if (isLetter(first)) {
                kinds[count] = keyword(from, to);
            } else if (isDigit(first)) {
                kinds[count] = NUMBER;
            } else {
                kinds[count] = to - from == 2 ? doubleSign(from) : first;
            }
            count++;
        }

        /** The place behind the word that begins here; this place itself if none does. */
        private int endOfWord(int at) {
            char first = text.charAt(at);
            boolean name = isLetter(first);
            if (name || isDigit(first)) {
                int end = at + 1;
                while (end < text.length() && continues(text.charAt(end), name)) {
                    end++;
                }
                return end - at <= (name ? LONGEST_NAME : LONGEST_NUMBER) ? end : at;
            }
            if (doubleSign(at) != END) {
                return at + 2;
            }
            return SIGNS.indexOf(first) >= 0 ? at + 1 : at;
        }

        private static boolean continues(char letter, boolean name) {
            return isDigit(letter) || name && (isLetter(letter) || letter == '_');
        }

        private static boolean isLetter(char letter) {
            return letter >= 'a' && letter <= 'z';
        }

        private static boolean isDigit(char letter) {
            return letter >= '0' && letter <= '9';
        }

        private int doubleSign(int at) {
            if (at + 1 >= text.length()) {
                return END;
            }
            char second = text.charAt(at + 1);
            switch (text.charAt(at)) {
                case '<':
                    return second == '=' ? LE : END;
                case '>':
                    return second == '=' ? GE : END;
                case '&':
                    return second == '&' ? AND : END;
                case '|':
                    return second == '|' ? OR : END;
                case '-':
                    return second == '>' ? ARROW : END;
                default:
                    return END;
            }
        }

        private int keyword(int from, int to) {
            int kind = ARRAY;
            int start = 0;
            for (int i = 0; i < KEYWORDS.length(); i++) {
                if (KEYWORDS.charAt(i) == ' ') {
                    if (i - start == to - from && sameLetters(start, from, to - from)) {
                        return kind;
                    }
                    kind++;
                    start = i + 1;
                }
            }
            return NAME;
        }

        private boolean sameLetters(int start, int from, int length) {
            for (int i = 0; i < length; i++) {
                if (KEYWORDS.charAt(start + i) != text.charAt(from + i)) {
                    return false;
                }
            }
            return true;
        }

        String textOf(int word) {
            return text.substring(places[word], ends[word]);
        }

        int numberOf(int word) {
            int number = 0;
            for (int i = places[word]; i < ends[word]; i++) {
                number = number * 10 + text.charAt(i) - '0';
            }
            return number;
        }
    }

    /** A NAME where it is told, or a parameter without one; in FACTS it stands for its int, length or size. */
    private static final class Name {
        /** Null for a parameter that has no NAME. */
        final String text;
        /** How many NAMES counted where it was told. */
        int index;
        /** Its type as the Typer knows it. */
        int type;
        /** The kind of its type, once that is found. */
        int base;
        Known known;
        /** What stands in its INSTANCES, by QUAL; kept because many CASES say the same ones. */
        Sum[] terms;
        /** Its number among the unknowns of the question that the Judge asks in that round. */
        int slot;
        int round;

        Name(String text, int base) {
            this.text = text;
            this.base = base;
        }

        boolean isMeasured() {
            return base == INT || base == ARRAY || base == LIST;
        }
    }

    /** An S, all of it brought together: NAMES that stay, each so many times, and a number. */
    private static final class Sum {
        Name[] names = new Name[2];
        int[] times = new int[2];
        int count;
        long plus;

        void add(Name name, int by) {
            if (name == null) {
                return;
            }
            int i = 0;
            while (i < count && names[i] != name) {
                i++;
            }
            if (i == count) {
                append(name);
            }
            times[i] += by;
            if (times[i] == 0) {
                count--;
                names[i] = names[count];
                times[i] = times[count];
            }
        }

        private void append(Name name) {
            if (count == names.length) {
                Name[] more = new Name[2 * count];
                System.arraycopy(names, 0, more, 0, count);
                names = more;
                times = Arrays.copyOf(times, 2 * count);
            }
            names[count] = name;
            times[count] = 0;
            count++;
        }

        void addAll(Sum other, int by) {
            for (int i = 0; i < other.count; i++) {
                add(other.names[i], by * other.times[i]);
            }
            plus += by * other.plus;
        }

        static Sum of(Name name, int times, long plus) {
            Sum sum = new Sum();
            sum.add(times == 0 ? null : name, times);
            sum.plus = plus;
            return sum;
        }

        /** A number, or one NAME plus or minus a number, also with - ahead. */
        boolean isTerm() {
            return count == 0 || count == 1 && Math.abs(times[0]) == 1;
        }

        /** Compared with 0 it is a FACT. */
        boolean isFact() {
            if (count == 2) {
                return Math.abs(times[0]) == 1 && Math.abs(times[1]) == 1;
            }
            return count == 0 || count == 1 && Math.abs(times[0]) <= 2;
        }
    }

    /** A part of the text: an E, an ARG, an S, a PART with a NAME, or a C with its parts. */
    private static final class Node {
        int kind;
        /** Its first word. */
        int place;
        /** How many NAMES count there. */
        final int counted;
        /** Where it is blamed: its sign or [ , or an ARG's first word. */
        int mark;
        int namePlace;
        /** Of a comparison of its sum with 0. */
        int rel;
        /** Of an S that is one PART and no more: that PART's first word's kind. */
        int alone;
        /** Of a function: its number among the program's functions. */
        int number;
        int type;
        Name name;
        Name told;
        ArrayList<Name> names;
        Node first;
        Node second;
        Node test;
        Node left;
        Node right;
        /** What must be SO there, as a C. */
        Node need;
        ArrayList<Node> parts;
        Sum sum;
        Scope scope;

        Node(int kind, int place, int counted) {
            this.kind = kind;
            this.place = place;
            this.counted = counted;
            this.mark = place;
        }
    }

    /** Reads a PROGRAM; after the first FAULT all words look like the end, so that it soon comes to one. */
    private static final class Parser {
        private final Words words;
        private final Name[] counting = new Name[MOST_NAMES];
        /** All NAMES as they are told; the INPUTS are the first. */
        final ArrayList<Name> told = new ArrayList<>();
        final ArrayList<Node> functions = new ArrayList<>();
        final int[] qualBases = new int[MOST_QUALS];
        final int[] qualRels = new int[MOST_QUALS];
        /** 1 or -1 as * has - ahead or not, 0 without a * . */
        final int[] qualStars = new int[MOST_QUALS];
        final int[] qualNumbers = new int[MOST_QUALS];
        int qualCount;
        int inputCount;
        Node root;
        private int at;
        private int counted;
        /** Comparisons and truths in the conditions that are gone through here, and in all that was read. */
        private int conditions;
        private int atoms;
        int fault = -1;
        int nameFault = -1;
        int formFault = -1;

        Parser(Words words) {
            this.words = words;
        }

        void readProgram() {
            while (qualCount < MOST_QUALS && kind() == QUAL) {
                readQual();
                qualCount++;
            }
            while (inputCount < MOST_INPUTS && kind() == INPUT) {
                readInput();
                inputCount++;
            }
            root = expression(0);
            if (kind() != END) {
                fail();
            }
        }

        private int kind() {
            return fault >= 0 ? END : words.kinds[at];
        }

        private int here() {
            return words.places[at];
        }

        private void next() {
            if (at < words.count) {
                at++;
            }
        }

        private void fail() {
            if (fault < 0) {
                fault = here();
            }
        }

        private void expect(int kind) {
            if (kind() == kind) {
                next();
            } else {
                fail();
            }
        }

        /** The first in the text is told, but forms are not found in its order. */
        void blameForm(int where) {
            if (where >= 0 && (formFault < 0 || where < formFault)) {
                formFault = where;
            }
        }

        private Node node(int kind) {
            return new Node(kind, here(), counted);
        }

        private void readQual() {
            next();
            int base = kind();
            if (base == INT || base == ARRAY || base == LIST) {
                qualBases[qualCount] = base;
                next();
            } else {
                fail();
            }
            expect(':');
            expect(V);
            qualRels[qualCount] = kind();
            if (isRelation(kind())) {
                next();
            } else {
                fail();
            }
            readQualTerm();
            expect(';');
        }

        private void readQualTerm() {
            int sign = 1;
            if (kind() == '-') {
                sign = -1;
                next();
            }
            if (kind() == '*') {
                qualStars[qualCount] = sign;
                next();
                if (kind() != '+' && kind() != '-') {
                    return;
                }
                sign = kind() == '+' ? 1 : -1;
                next();
            }
            if (kind() == NUMBER) {
                qualNumbers[qualCount] = sign * words.numberOf(at);
            }
            expect(NUMBER);
        }

        private static boolean isRelation(int kind) {
            return kind == '=' || kind == '<' || kind == LE || kind == '>' || kind == GE;
        }

        private void readInput() {
            next();
            Name name = tell();
            expect(':');
            int base = kind();
            if (base == INT || base == BOOL || base == ARRAY) {
                name.base = base;
                next();
            } else {
                fail();
            }
            expect(';');
            count(name);
        }

        /** A NAME that is told here; where it begins to count is the caller's to say. */
        private Name tell() {
            if (kind() != NAME) {
                fail();
                return new Name("", INT);
            }
            Name name = new Name(words.textOf(at), INT);
            if (nameFault < 0 && (counted >= MOST_NAMES || counts(name.text) != null)) {
                nameFault = here();
            }
            told.add(name);
            next();
            return name;
        }

        private void count(Name name) {
            name.index = counted;
            if (counted < MOST_NAMES) {
                counting[counted] = name;
            }
            counted++;
        }

        private Name counts(String text) {
            for (int i = 0; i < counted && i < MOST_NAMES; i++) {
                if (counting[i].text.equals(text)) {
                    return counting[i];
                }
            }
            return null;
        }

        private Name use() {
            if (kind() != NAME) {
                fail();
                return null;
            }
            Name name = counts(words.textOf(at));
            if (name == null && nameFault < 0) {
                nameFault = here();
            }
            next();
            return name;
        }

        private Node expression(int depth) {
            Node e = node(kind());
            if (depth > DEEPEST) {
                fail();
                return e;
            }
            switch (kind()) {
                case LET:
                    readLet(e, depth);
                    break;
                case FUN:
                    readFunction(e, depth);
                    break;
                case IF:
                    readIf(e, depth);
                    break;
                case ASSERT:
                    readAssert(e, depth);
                    break;
                case SET:
                    readSet(e, depth);
                    break;
                case MATCH:
                    readMatch(e, depth);
                    break;
                case NEW:
                    next();
                    e.left = sum();
                    e.need = compare(e.left.sum, GE);
                    break;
                case CONS:
                    next();
                    e.left = sum();
                    e.namePlace = here();
                    e.name = use();
                    break;
                case NIL:
                case TRUE:
                case FALSE:
                    next();
                    break;
                case '(':
                    next();
                    e.first = expression(depth + 1);
                    expect(')');
                    break;
                default:
                    return readOpen(depth);
            }
            return e;
        }

        private void readLet(Node e, int depth) {
            next();
            if (kind() == REC) {
                readRec(e, depth);
                return;
            }
            e.told = tell();
            expect('=');
            e.first = expression(depth + 1);
            expect(IN);
            count(e.told);
            e.second = expression(depth + 1);
            counted--;
        }

        private void readRec(Node e, int depth) {
            e.kind = REC;
            next();
            beFunction(e);
            e.told = tell();
            count(e.told);
            for (int i = 0; i < MOST_ARGUMENTS && (i == 0 || kind() == NAME); i++) {
                tellParameter(e);
            }
            expect('=');
            e.first = expression(depth + 1);
            expect(IN);
            counted -= e.names.size();
            e.second = expression(depth + 1);
            counted--;
        }

        private void beFunction(Node e) {
            e.number = functions.size();
            functions.add(e);
            e.names = new ArrayList<>();
        }

        private void tellParameter(Node e) {
            Name name = tell();
            e.names.add(name);
            count(name);
        }

        private void readFunction(Node e, int depth) {
            next();
            beFunction(e);
            tellParameter(e);
            expect(ARROW);
            e.first = expression(depth + 1);
            counted--;
        }

        private void readIf(Node e, int depth) {
            next();
            int before = conditions;
            e.test = test(depth);
            expect(THEN);
            e.first = expression(depth + 1);
            expect(ELSE);
            e.second = expression(depth + 1);
            conditions = before;
        }

        private void readAssert(Node e, int depth) {
            next();
            int before = conditions;
            e.test = test(depth);
            e.need = e.test;
            expect(';');
            e.first = expression(depth + 1);
            conditions = before;
        }

        private void readSet(Node e, int depth) {
            next();
            readIndex(e);
            expect('=');
            e.right = sum();
            expect(';');
            e.first = expression(depth + 1);
        }

        /** NAME '[' S ']' of an element that is set or asked for. */
        private void readIndex(Node e) {
            e.namePlace = here();
            e.name = use();
            e.mark = here();
            expect('[');
            e.left = sum();
            expect(']');
            Sum beyond = new Sum();
            beyond.addAll(e.left.sum, 1);
            beyond.add(e.name, -1);
            e.need = node(AND);
            e.need.parts = new ArrayList<>();
            e.need.parts.add(compare(e.left.sum, GE));
            e.need.parts.add(compare(beyond, '<'));
        }

        private void readMatch(Node e, int depth) {
            next();
            e.namePlace = here();
            e.name = use();
            e.test = compare(Sum.of(e.name, 1, 0), LE);
            expect(WITH);
            expect(NIL);
            expect(ARROW);
            e.first = expression(depth + 1);
            expect(';');
            e.names = new ArrayList<>();
            tellParameter(e);
            tellParameter(e);
            expect(ARROW);
            e.second = expression(depth + 1);
            counted -= e.names.size();
        }

        /** An E that no keyword begins. */
        private Node readOpen(int depth) {
            int following = kind() == NAME ? words.kinds[at + 1] : END;
            if (following == '[') {
                Node e = node('[');
                readIndex(e);
                return e;
            }
            if (beginsArgument(following)) {
                return readCall(depth);
            }
            Node s = sum();
            if (kind() != '*' && kind() != '/' && kind() != '%') {
                return s;
            }
            Node e = new Node(kind(), s.place, counted);
            e.mark = here();
            next();
            e.left = s;
            e.right = sum();
            e.need = e.kind == '*' ? null : compare(e.right.sum, '#');
            return e;
        }

        private static boolean beginsArgument(int kind) {
            return kind == NUMBER || kind == NAME || kind == '(' || kind == TRUE || kind == FALSE;
        }

        private Node readCall(int depth) {
            Node e = node(CALL);
            e.namePlace = here();
            e.name = use();
            e.parts = new ArrayList<>();
            for (int i = 0; i < MOST_ARGUMENTS && beginsArgument(kind()); i++) {
                e.parts.add(argument(depth));
            }
            return e;
        }

        private Node argument(int depth) {
            int start = here();
            Node a = node(kind());
            if (kind() == TRUE || kind() == FALSE) {
                next();
            } else if (kind() != '(') {
                a = sum(1);
            } else {
                next();
                if (kind() == FUN) {
                    a = expression(depth + 1);
                } else {
                    a = sum();
                    // In ( ) it is an S, and that is an int even if it is a NAME alone.
                    a.alone = END;
                    if (!a.sum.isTerm()) {
                        blameForm(start);
                    }
                }
                expect(')');
            }
            a.mark = start;
            return a;
        }

        private Node sum() {
            return sum(FAR);
        }

        /** An S of at most so many PARTS, read as far as it goes. */
        private Node sum(int most) {
            Node s = node(SUM);
            s.sum = new Sum();
            s.parts = new ArrayList<>();
            s.alone = kind();
            boolean more = true;
            for (int i = 0; i < most && more; i++) {
                int sign = kind() == '-' ? -1 : 1;
                if (kind() == '-' || i > 0) {
                    s.alone = END;
                    next();
                }
                int word = kind();
                if (word == NUMBER) {
                    s.sum.plus += sign * words.numberOf(at);
                    next();
                } else {
                    if (word == LEN || word == SIZE) {
                        next();
                    }
                    Node p = node(word == LEN ? ARRAY : word == SIZE ? LIST : INT);
                    p.name = use();
                    s.name = p.name;
                    s.parts.add(p);
                    s.sum.add(p.name, sign);
                }
                more = kind() == '+' || kind() == '-';
            }
            return s;
        }

        private Node compare(Sum sum, int rel) {
            Node c = node(COMPARE);
            c.sum = sum;
            c.rel = rel;
            return c;
        }

        /** The C of an 'if' or 'assert'; the caller forgets it when what it holds for is read. */
        private Node test(int depth) {
            int start = here();
            int before = atoms;
            Node c = either(depth);
            conditions += atoms - before;
            if (conditions > MOST_CONDITIONS) {
                blameForm(start);
            }
            return c;
        }

        private Node either(int depth) {
            Node one = both(depth);
            if (kind() != OR) {
                return one;
            }
            Node c = new Node(OR, one.place, counted);
            c.parts = new ArrayList<>();
            c.parts.add(one);
            for (int i = 0; i < words.count && kind() == OR; i++) {
                next();
                c.parts.add(both(depth));
            }
            return c;
        }

        private Node both(int depth) {
            Node one = single(depth);
            if (kind() != AND) {
                return one;
            }
            Node c = new Node(AND, one.place, counted);
            c.parts = new ArrayList<>();
            c.parts.add(one);
            for (int i = 0; i < words.count && kind() == AND; i++) {
                next();
                c.parts.add(single(depth));
            }
            return c;
        }

        private Node single(int depth) {
            Node c = node(kind());
            if (depth > DEEPEST) {
                fail();
                return c;
            }
            switch (kind()) {
                case NOT:
                    next();
                    c.first = single(depth + 1);
                    return c;
                case '(':
                    next();
                    c = either(depth + 1);
                    expect(')');
                    return c;
                case TRUE:
                case FALSE:
                    next();
                    atoms++;
                    return c;
                default:
                    return comparison(c);
            }
        }

        private Node comparison(Node c) {
            c.left = sum();
            atoms++;
            if (!isRelation(kind()) && kind() != '#') {
                c.kind = TRUTH;
                c.name = c.left.name;
                if (c.left.alone != NAME) {
                    fail();
                }
                return c;
            }
            c.kind = COMPARE;
            c.rel = kind();
            c.mark = here();
            next();
            c.right = sum();
            c.sum = new Sum();
            c.sum.addAll(c.left.sum, 1);
            c.sum.addAll(c.right.sum, -1);
            if (!c.sum.isFact()) {
                blameForm(c.mark);
            }
            return c;
        }
    }

    /** Finds all types as usual; a type is a number here, and may turn out to be the same as another. */
    private static final class Typer {
        private final int[] kinds;
        private final int[] takes;
        private final int[] answers;
        /** The type that this one turned out to be, or itself. */
        private final int[] same;
        private final int[] colours;
        private final int[] work;
        private int count;
        private int leaves;
        int fault = -1;
        /** The E whose TEMPLATE has more than may be, or -1. */
        int overfull = -1;

        Typer(int words) {
            // No word makes more than three types: an ARG of a NAME whose type is free does.
            int most = 4 * words + 8;
            kinds = new int[most];
            takes = new int[most];
            answers = new int[most];
            same = new int[most];
            colours = new int[most];
            work = new int[3 * most];
            make(INT);
            make(BOOL);
            make(ARRAY);
            make(LIST);
        }

        void findAll(Parser program) {
            for (int i = 0; i < program.inputCount && i < program.told.size(); i++) {
                program.told.get(i).type = basic(program.told.get(i).base);
            }
            infer(program.root);
            if (fault >= 0) {
                return;
            }
            for (int i = 0; i < program.told.size(); i++) {
                program.told.get(i).base = kindOf(program.told.get(i).type);
            }
            countTemplates(program.root);
        }

        private int make(int kind) {
            if (count == kinds.length) {
                return 0;
            }
            kinds[count] = kind;
            same[count] = count;
            count++;
            return count - 1;
        }

        private int function(int taken, int answered) {
            int type = make(FUN);
            takes[type] = taken;
            answers[type] = answered;
            return type;
        }

        private static int basic(int kind) {
            return kind == BOOL ? 1 : kind == ARRAY ? 2 : kind == LIST ? 3 : 0;
        }

        private int root(int type) {
            int t = type;
            for (int i = 0; i < count && same[t] != t; i++) {
                t = same[t];
            }
            return t;
        }

        int kindOf(int type) {
            int kind = kinds[root(type)];
            return kind == FREE ? INT : kind;
        }

        int takenBy(int type) {
            return takes[root(type)];
        }

        int answeredBy(int type) {
            return answers[root(type)];
        }

        private void must(int found, int wanted, int where) {
            if (fault < 0 && !(unify(found, wanted) && isFinite(found))) {
                fault = where;
            }
        }

        private boolean unify(int one, int other) {
            int top = 0;
            work[top++] = one;
            work[top++] = other;
            for (int i = 0; i < FAR && top >= 2; i++) {
                int a = root(work[--top]);
                int b = root(work[--top]);
                if (a == b) {
                    continue;
                }
                if (kinds[a] == FREE) {
                    same[a] = b;
                } else if (kinds[b] == FREE) {
                    same[b] = a;
                } else if (kinds[a] != FUN || kinds[b] != FUN) {
                    return false;
                } else {
                    same[a] = b;
                    work[top++] = answers[a];
                    work[top++] = answers[b];
                    work[top++] = takes[a];
                    work[top++] = takes[b];
                }
            }
            return true;
        }

        /** Whether the type does not stand within itself; 1 colours what is being gone through, 2 what is done. */
        private boolean isFinite(int type) {
            Arrays.fill(colours, 0);
            int top = 0;
            work[top++] = type;
            for (int i = 0; i < FAR && top > 0; i++) {
                int t = root(work[top - 1]);
                if (colours[t] != 0 || kinds[t] != FUN) {
                    colours[t] = 2;
                    top--;
                    continue;
                }
                colours[t] = 1;
                int taken = root(takes[t]);
                int answered = root(answers[t]);
                if (colours[taken] == 1 || colours[answered] == 1) {
                    return false;
                }
                work[top++] = answered;
                work[top++] = taken;
            }
            return true;
        }

        private int infer(Node e) {
            if (fault >= 0) {
                return basic(INT);
            }
            switch (e.kind) {
                case LET:
                    e.told.type = infer(e.first);
                    e.type = infer(e.second);
                    break;
                case REC:
                    inferRec(e);
                    break;
                case FUN:
                    e.names.get(0).type = make(FREE);
                    e.type = function(e.names.get(0).type, infer(e.first));
                    break;
                case IF:
                    checkTest(e.test);
                    e.type = infer(e.first);
                    must(infer(e.second), e.type, e.second.place);
                    break;
                case MATCH:
                    inferMatch(e);
                    break;
                case ASSERT:
                    checkTest(e.test);
                    e.type = infer(e.first);
                    break;
                case SET:
                    must(e.name.type, basic(ARRAY), e.namePlace);
                    checkSum(e.left);
                    checkSum(e.right);
                    e.type = infer(e.first);
                    break;
                case '(':
                    e.type = infer(e.first);
                    break;
                case CALL:
                    inferCall(e);
                    break;
                default:
                    e.type = inferPlain(e);
            }
            return e.type;
        }

        /** An E without an E in it. */
        private int inferPlain(Node e) {
            switch (e.kind) {
                case TRUE:
                case FALSE:
                    return basic(BOOL);
                case NIL:
                    return basic(LIST);
                case NEW:
                    checkSum(e.left);
                    return basic(ARRAY);
                case CONS:
                    checkSum(e.left);
                    must(e.name.type, basic(LIST), e.namePlace);
                    return basic(LIST);
                case '[':
                    must(e.name.type, basic(ARRAY), e.namePlace);
                    checkSum(e.left);
                    return basic(INT);
                case SUM:
                    if (e.alone == NAME) {
                        return e.name.type;
                    }
                    checkSum(e);
                    return basic(INT);
                default:
                    checkSum(e.left);
                    checkSum(e.right);
                    return basic(INT);
            }
        }

        private void inferRec(Node e) {
            for (int i = 0; i < e.names.size(); i++) {
                e.names.get(i).type = make(FREE);
            }
            int answered = make(FREE);
            e.told.type = answered;
            for (int i = e.names.size() - 1; i >= 0; i--) {
                e.told.type = function(e.names.get(i).type, e.told.type);
            }
            must(infer(e.first), answered, e.first.place);
            e.type = infer(e.second);
        }

        private void inferMatch(Node e) {
            must(e.name.type, basic(LIST), e.namePlace);
            e.type = infer(e.first);
            e.names.get(0).type = basic(INT);
            e.names.get(1).type = basic(LIST);
            must(infer(e.second), e.type, e.second.place);
        }

        /** The NAME must be a function of as many before any ARG is looked at. */
        private void inferCall(Node e) {
            int t = root(e.name.type);
            for (int i = 0; i < e.parts.size(); i++) {
                if (kinds[t] == FREE) {
                    same[t] = function(make(FREE), make(FREE));
                    t = root(t);
                }
                if (kinds[t] != FUN) {
                    fault = e.namePlace;
                    return;
                }
                e.parts.get(i).type = takes[t];
                t = root(answers[t]);
            }
            for (int i = 0; i < e.parts.size(); i++) {
                Node a = e.parts.get(i);
                int wanted = a.type;
                must(infer(a), wanted, a.mark);
            }
            e.type = t;
        }

        private void checkSum(Node s) {
            for (int i = 0; i < s.parts.size(); i++) {
                Node p = s.parts.get(i);
                must(p.name.type, basic(p.kind), p.place);
            }
        }

        private void checkTest(Node c) {
            switch (c.kind) {
                case NOT:
                    checkTest(c.first);
                    break;
                case AND:
                case OR:
                    for (int i = 0; i < c.parts.size(); i++) {
                        checkTest(c.parts.get(i));
                    }
                    break;
                case TRUTH:
                    must(c.name.type, basic(BOOL), c.place);
                    break;
                case COMPARE:
                    checkSum(c.left);
                    checkSum(c.right);
                    break;
                default:
                    break;
            }
        }

        /** TEMPLATES are counted in the order of the first words of their Es. */
        private void countTemplates(Node e) {
            if (e.kind == REC) {
                leaves += leavesOf(e.told.type);
            }
            if (e.kind == LET || e.kind == REC || e.kind == FUN || e.kind == IF || e.kind == MATCH) {
                leaves += leavesOf(e.type);
            }
            if (leaves > MOST_LEAVES) {
                overfull = overfull < 0 ? e.place : overfull;
                return;
            }
            if (e.first != null) {
                countTemplates(e.first);
            }
            if (e.second != null) {
                countTemplates(e.second);
            }
            for (int i = 0; e.kind == CALL && i < e.parts.size(); i++) {
                countTemplates(e.parts.get(i));
            }
        }

        /** A type may be far too big to go through, so this stops when there are too many. */
        private int leavesOf(int type) {
            int found = 0;
            int top = 0;
            work[top++] = type;
            for (int i = 0; i < FAR && top > 0 && found <= MOST_LEAVES; i++) {
                int t = root(work[--top]);
                if (kinds[t] == FUN) {
                    work[top++] = answers[t];
                    work[top++] = takes[t];
                } else {
                    found++;
                }
            }
            return found;
        }
    }

    /**
     * What is known of a value: its type, with the FACTS of each int, array and list in it. One that is made by a
     * call has its parts and FACTS from another, its origin, and only puts ARGS in the place of parameters.
     */
    private static final class Known {
        final int kind;
        final Known origin;
        /** Of a function, in the origin. */
        Name parameter;
        Known takes;
        Known answers;
        /** The FACTS, in the origin: v, a relation, and what it stands to. */
        int[] rels;
        Sum[] sums;
        int count;
        /** When it last lost an INSTANCE. */
        int changed;
        /** The parameters that are gone, and what stands in their place; null if none is. */
        private final Name[] gone;
        private final Sum[] instead;
        /** The FACT that was recalled last: v, rel, name so many times (none if null), plus a number. */
        int rel;
        int times;
        Name name;
        long plus;

        Known(int kind) {
            this.kind = kind;
            this.origin = this;
            this.gone = null;
            this.instead = null;
        }

        private Known(Known origin, Name[] gone, Sum[] instead) {
            this.kind = origin.kind;
            this.origin = origin;
            this.gone = gone;
            this.instead = instead;
        }

        /** One that says v = the sum, if that can be a FACT about v: no other NAME than one, once, may stand in it. */
        static Known of(int kind, Sum sum) {
            Known known = new Known(kind);
            if (sum != null && sum.isTerm()) {
                known.makeRoom(1);
                known.say('=', sum);
            }
            return known;
        }

        void makeRoom(int facts) {
            rels = new int[facts];
            sums = new Sum[facts];
        }

        void say(int rel, Sum sum) {
            if (rels != null && count < rels.length) {
                rels[count] = rel;
                sums[count] = sum;
                count++;
            }
        }

        void recall(int i) {
            if (i < 0 || i >= origin.count) {
                return;
            }
            Sum sum = origin.sums[i];
            rel = origin.rels[i];
            plus = sum.plus;
            name = sum.count == 0 ? null : sum.names[0];
            times = sum.times[0];
            Sum other = insteadOf(name);
            if (other != null) {
                plus += times * other.plus;
                name = other.count == 0 ? null : other.names[0];
                times *= other.times[0];
            }
        }

        private Sum insteadOf(Name parameter) {
            for (int i = 0; gone != null && parameter != null && i < gone.length; i++) {
                if (gone[i] == parameter) {
                    return instead[i];
                }
            }
            return null;
        }

        Known taken() {
            return gone == null ? origin.takes : new Known(origin.takes, gone, instead);
        }

        /** What a function answers, with this in the place of its parameter (null: it stays). */
        Known answered(Sum argument) {
            if (argument == null) {
                return gone == null ? origin.answers : new Known(origin.answers, gone, instead);
            }
            int before = gone == null ? 0 : gone.length;
            Name[] names = new Name[before + 1];
            Sum[] others = new Sum[before + 1];
            for (int i = 0; i < before; i++) {
                names[i] = gone[i];
                others[i] = instead[i];
            }
            names[before] = origin.parameter;
            others[before] = argument;
            return new Known(origin.answers, names, others);
        }
    }

    /** What is known at a place: a NAME that counts or a condition that was gone through, and all around it. */
    private static final class Scope {
        final Name name;
        final Node test;
        final boolean holds;
        final Scope outer;

        Scope(Name name, Scope outer) {
            this.name = name;
            this.test = null;
            this.holds = false;
            this.outer = outer;
        }

        Scope(Node test, boolean holds, Scope outer) {
            this.name = null;
            this.test = test;
            this.holds = holds;
            this.outer = outer;
        }
    }

    /**
     * Whole numbers under limits on sums of two of them or their opposites. Unknown number s is side 2 s, its
     * opposite side 2 s + 1. A cell (p, q) is the most that side q less side p can be; once closed, each is as low
     * as whole numbers allow, so that a question needs one look. Levels stand on one another, for trying.
     */
    private static final class Octagon {
        private static final long NO_LIMIT = 1L << 60;
        private long[] cells = new long[0];
        private int width;
        /** Where the cells of the level that is tried begin. */
        private int base;
        private boolean closed;
        /** No numbers are left. */
        boolean failed;

        void reset(int unknowns) {
            width = 2 * unknowns;
            base = 0;
            closed = false;
            failed = false;
            makeRoom(width * width);
            for (int i = 0; i < width * width; i++) {
                cells[i] = NO_LIMIT;
            }
            for (int i = 0; i < width; i++) {
                cells[i * width + i] = 0;
            }
        }

        private void makeRoom(int most) {
            if (cells.length < most) {
                cells = Arrays.copyOf(cells, 2 * most);
            }
        }

        void rise() {
            int area = width * width;
            makeRoom(base + 2 * area);
            System.arraycopy(cells, base, cells, base + area, area);
            base += area;
        }

        /** Only a level that had not failed is left by rising, so neither has the one that this comes back to. */
        void sink() {
            base = Math.max(0, base - width * width);
            failed = false;
        }

        /** The two sides together are at most this. */
        void limit(int a, int b, long most) {
            if (a == (b ^ 1)) {
                failed = failed || most < 0;
                return;
            }
            int from = base + (b ^ 1) * width + a;
            int back = base + (a ^ 1) * width + b;
            if (failed || cells[from] <= most) {
                return;
            }
            if (closed) {
                lead(b ^ 1, a, most);
                lead(a ^ 1, b, most);
                tighten();
            } else {
                cells[from] = most;
                cells[back] = most;
            }
        }

        boolean isLimited(int a, int b, long most) {
            return a == (b ^ 1) ? most >= 0 : cells[base + (b ^ 1) * width + a] <= most;
        }

        /** From where p can be reached, so can now all that q reaches, with so much more. */
        private void lead(int p, int q, long more) {
            int other = base + q * width;
            for (int i = 0; i < width; i++) {
                int row = base + i * width;
                long way = cells[row + p];
                for (int j = 0; way < NO_LIMIT && j < width; j++) {
                    if (cells[other + j] < NO_LIMIT && way + more + cells[other + j] < cells[row + j]) {
                        cells[row + j] = way + more + cells[other + j];
                    }
                }
            }
        }

        void close() {
            closed = true;
            for (int k = 0; k < width && !failed; k++) {
                lead(k, k, 0);
                // Looked at each time, as what runs in a circle below 0 would grow beyond all numbers.
                for (int i = 0; i < width; i++) {
                    failed = failed || cells[base + i * width + i] < 0;
                }
            }
            tighten();
        }

        /** Twice a whole number is even: this is what closes the limits for whole numbers, not only for fractions. */
        private void tighten() {
            for (int i = 0; i < width && !failed; i++) {
                int cell = base + i * width + (i ^ 1);
                if (cells[cell] < NO_LIMIT) {
                    cells[cell] &= -2L;
                }
                failed = cells[base + i * width + i] < 0;
            }
            for (int i = 0; i < width && !failed; i++) {
                long own = cells[base + i * width + (i ^ 1)];
                failed = own < NO_LIMIT && own + cells[base + (i ^ 1) * width + i] < 0;
                for (int j = 0; own < NO_LIMIT && j < width; j++) {
                    long other = cells[base + (j ^ 1) * width + j];
                    if (other < NO_LIMIT) {
                        int cell = base + i * width + j;
                        cells[cell] = Math.min(cells[cell], (own + other) / 2);
                    }
                }
            }
        }
    }

    /** Decides what FACTS say, in whole numbers: conditions that may hold in several ways are tried one by one. */
    private static final class Judge {
        /** MOST_CONDITIONS comparisons and truths, and what joins them, are fewer than this. */
        private static final int MOST_PENDING = 40;
        private final Octagon octagon = new Octagon();
        private final Node[] pending = new Node[MOST_PENDING];
        private final boolean[] pendingHolds = new boolean[MOST_PENDING];
        private int pendingCount;
        private final Name[] truths = new Name[MOST_PENDING];
        private final boolean[] truthHolds = new boolean[MOST_PENDING];
        private int truthCount;
        private int round;
        /** The CASE that must lose what isn't said, or null where the question is only whether there is a way. */
        private Known weakened;
        private boolean possible;

        /** Takes all INSTANCES from the right CASE that the left FACTS do not say at this place. */
        boolean weaken(Scope scope, Known left, Known right) {
            int before = right.origin.count;
            weakened = right;
            begin(scope, left);
            octagon.close();
            explore(0);
            return right.origin.count < before;
        }

        /** Whether the C holds at this place, whatever the numbers are. */
        boolean isSure(Scope scope, Node c) {
            weakened = null;
            possible = !isFormed(c);
            begin(scope, null);
            assume(c, false);
            octagon.close();
            explore(0);
            return !possible;
        }

        /** Only what must be SO of an S can be no FACT, and it is one comparison or two. */
        private static boolean isFormed(Node c) {
            boolean formed = c.kind != COMPARE || c.sum.isFact();
            for (int i = 0; c.kind == AND && i < c.parts.size(); i++) {
                Node part = c.parts.get(i);
                formed = formed && (part.kind != COMPARE || part.sum.isFact());
            }
            return formed;
        }

        private void begin(Scope scope, Known left) {
            round++;
            pendingCount = 0;
            truthCount = 0;
            int unknowns = 1;
            for (Scope s = scope; s != null; s = s.outer) {
                if (s.name != null && s.name.isMeasured()) {
                    s.name.slot = unknowns;
                    s.name.round = round;
                    unknowns++;
                }
            }
            octagon.reset(unknowns);
            if (left != null) {
                learn(left, 0);
            }
            for (Scope s = scope; s != null; s = s.outer) {
                if (s.test != null) {
                    assume(s.test, s.holds);
                } else if (s.name.isMeasured() && s.name.known != null) {
                    learn(s.name.known, s.name.slot);
                }
            }
        }

        private void learn(Known known, int slot) {
            if (known.kind != INT) {
                octagon.limit(2 * slot + 1, 2 * slot + 1, 0);
            }
            for (int i = 0; i < known.origin.count; i++) {
                known.recall(i);
                meet(known, slot, false);
            }
        }

        /** Takes the recalled FACT as one of this unknown, or asks whether it is: v is at most it, at least, or both. */
        private boolean meet(Known fact, int slot, boolean ask) {
            if (fact.name != null && fact.name.round != round) {
                return !ask;
            }
            boolean met = true;
            int less = fact.rel == '<' || fact.rel == '>' ? 1 : 0;
            for (int sign = 1; sign >= -1; sign -= 2) {
                long most = sign * fact.plus - less;
                int a = 2 * slot + (sign > 0 ? 0 : 1);
                int b = a;
                if (fact.name == null) {
                    most *= 2;
                } else {
                    b = side(fact.name, -sign * fact.times);
                }
                boolean told = fact.rel == '=' || (fact.rel == '<' || fact.rel == LE) == sign > 0;
                if (told && ask) {
                    met = met && octagon.isLimited(a, b, most);
                } else if (told) {
                    octagon.limit(a, b, most);
                }
            }
            return met;
        }

        private static int side(Name name, int times) {
            return 2 * name.slot + (times > 0 ? 0 : 1);
        }

        private void assume(Node c, boolean holds) {
            switch (c.kind) {
                case NOT:
                    assume(c.first, !holds);
                    break;
                case AND:
                case OR:
                    if ((c.kind == AND) != holds) {
                        postpone(c, holds);
                        break;
                    }
                    for (int i = 0; i < c.parts.size(); i++) {
                        assume(c.parts.get(i), holds);
                    }
                    break;
                case TRUTH:
                    choose(c.name, holds);
                    break;
                case COMPARE:
                    compare(c, holds);
                    break;
                default:
                    octagon.failed = octagon.failed || (c.kind == TRUE) != holds;
            }
        }

        private void postpone(Node c, boolean holds) {
            if (pendingCount < MOST_PENDING) {
                pending[pendingCount] = c;
                pendingHolds[pendingCount] = holds;
                pendingCount++;
            }
        }

        private void choose(Name name, boolean holds) {
            for (int i = 0; i < truthCount; i++) {
                if (truths[i] == name && truthHolds[i] != holds) {
                    octagon.failed = true;
                }
            }
            if (truthCount < MOST_PENDING) {
                truths[truthCount] = name;
                truthHolds[truthCount] = holds;
                truthCount++;
            }
        }

        private void compare(Node c, boolean holds) {
            int rel = holds ? c.rel : opposite(c.rel);
            if (rel == '#') {
                postpone(c, holds);
                return;
            }
            if (rel != '>' && rel != GE) {
                limit(c.sum, 1, rel == '<' ? 1 : 0);
            }
            if (rel != '<' && rel != LE) {
                limit(c.sum, -1, rel == '>' ? 1 : 0);
            }
        }

        private static int opposite(int rel) {
            switch (rel) {
                case '<':
                    return GE;
                case LE:
                    return '>';
                case '>':
                    return LE;
                case GE:
                    return '<';
                default:
                    return rel == '=' ? '#' : '=';
            }
        }

        /** The sum, or its opposite, is below 0 by this much or more. */
        private void limit(Sum sum, int sign, int less) {
            long most = -sign * sum.plus - less;
            if (sum.count == 0) {
                octagon.failed = octagon.failed || most < 0;
            } else if (sum.isFact() && sum.names[0].round == round && sum.names[sum.count - 1].round == round) {
                int a = side(sum.names[0], sign * sum.times[0]);
                int b = side(sum.names[sum.count - 1], sign * sum.times[sum.count - 1]);
                boolean once = sum.count == 1 && Math.abs(sum.times[0]) == 1;
                octagon.limit(a, b, once ? 2 * most : most);
            }
        }

        /** Each way that was postponed lies one level deeper, and MOST_CONDITIONS keeps them few. */
        private void explore(int from) {
            if (octagon.failed) {
                return;
            }
            if (from >= pendingCount) {
                conclude();
                return;
            }
            Node c = pending[from];
            boolean holds = pendingHolds[from];
            int pendingBefore = pendingCount;
            int truthsBefore = truthCount;
            int ways = c.kind == COMPARE ? 2 : c.parts.size();
            for (int i = 0; i < ways && !isDecided(); i++) {
                octagon.rise();
                if (c.kind == COMPARE) {
                    limit(c.sum, i == 0 ? 1 : -1, 1);
                } else {
                    assume(c.parts.get(i), holds);
                }
                explore(from + 1);
                octagon.sink();
                pendingCount = pendingBefore;
                truthCount = truthsBefore;
            }
        }

        private boolean isDecided() {
            return weakened == null ? possible : weakened.origin.count == 0;
        }

        /** Here is a way in which all that is known holds. */
        private void conclude() {
            if (weakened == null) {
                possible = true;
                return;
            }
            Known origin = weakened.origin;
            int kept = 0;
            for (int i = 0; i < origin.count; i++) {
                weakened.recall(i);
                if (meet(weakened, 0, true)) {
                    origin.rels[kept] = origin.rels[i];
                    origin.sums[kept] = origin.sums[i];
                    kept++;
                }
            }
            origin.count = kept;
        }
    }

    /** Goes through a program for what must FIT and be SO, then lets the CASES say as much as can be. */
    private static final class Checker {
        private final Parser program;
        private final Typer types;
        private final Judge judge;
        /** What must FIT: at each place what is known, and the CASE it must say. */
        private final ArrayList<Scope> scopes = new ArrayList<>();
        private final ArrayList<Known> lefts = new ArrayList<>();
        private final ArrayList<Known> rights = new ArrayList<>();
        /** The Es at which something must be SO. */
        private final ArrayList<Node> needs = new ArrayList<>();
        /** What * may be where a TEMPLATE is made: the NAMES that count there, then its parameters. */
        private final Name[] stars = new Name[MOST_NAMES + MOST_LEAVES + 1];
        private int starCount;
        /** The first place where something is not SO, or -1. */
        int firstDoubt = -1;

        Checker(Parser program, Typer types, Judge judge) {
            this.program = program;
            this.types = types;
            this.judge = judge;
        }

        void gather() {
            Scope scope = null;
            for (int i = 0; i < program.inputCount; i++) {
                Name name = program.told.get(i);
                name.known = new Known(name.base);
                scope = new Scope(name, scope);
            }
            walk(program.root, scope);
        }

        void findDoubt() {
            for (int i = 0; i < needs.size(); i++) {
                Node e = needs.get(i);
                if ((firstDoubt < 0 || e.mark < firstDoubt) && !judge.isSure(e.scope, e.need)) {
                    firstDoubt = e.mark;
                }
            }
        }

        /** Only what may have changed since it was looked at is looked at again. */
        void weakenAll() {
            int[] looked = new int[rights.size()];
            int clock = 0;
            boolean changed = true;
            for (int round = 0; round < FAR && changed; round++) {
                changed = false;
                for (int i = 0; i < looked.length; i++) {
                    Known origin = rights.get(i).origin;
                    if (origin.count > 0 && lastChange(i) >= looked[i]) {
                        clock++;
                        looked[i] = clock;
                        if (judge.weaken(scopes.get(i), lefts.get(i), rights.get(i))) {
                            origin.changed = clock;
                            changed = true;
                        }
                    }
                }
            }
        }

        private int lastChange(int i) {
            int last = lefts.get(i).origin.changed;
            for (Scope s = scopes.get(i); s != null; s = s.outer) {
                if (s.name != null && s.name.known != null) {
                    last = Math.max(last, s.name.known.origin.changed);
                }
            }
            return last;
        }

        /** The type of an E at its place. */
        private Known walk(Node e, Scope scope) {
            if (e.need != null) {
                e.scope = scope;
                needs.add(e);
            }
            switch (e.kind) {
                case LET:
                    return walkLet(e, scope);
                case REC:
                    return walkRec(e, scope);
                case FUN:
                    return walkFunction(e, scope);
                case IF:
                    return walkIf(e, scope);
                case MATCH:
                    return walkMatch(e, scope);
                case CALL:
                    return walkCall(e, scope);
                case ASSERT:
                    return walk(e.first, new Scope(e.test, true, scope));
                case SET:
                case '(':
                    return walk(e.first, scope);
                default:
                    return plain(e);
            }
        }

        /** The type of an E without an E in it. */
        private static Known plain(Node e) {
            switch (e.kind) {
                case TRUE:
                case FALSE:
                    return new Known(BOOL);
                case NIL:
                    return Known.of(LIST, new Sum());
                case NEW:
                    return Known.of(ARRAY, e.left.sum);
                case CONS:
                    return Known.of(LIST, Sum.of(e.name, 1, 1));
                case '*':
                    return product(e.left.sum, e.right.sum);
                case '%':
                    return remainder(e.right);
                case SUM:
                    if (e.alone == NAME) {
                        return e.name.isMeasured() ? Known.of(e.name.base, e.sum) : e.name.known;
                    }
                    return Known.of(INT, e.sum);
                default:
                    return new Known(INT);
            }
        }

        private static Known product(Sum left, Sum right) {
            boolean numbers = left.count == 0 && right.count == 0;
            return Known.of(INT, numbers ? Sum.of(null, 0, left.plus * right.plus) : null);
        }

        private static Known remainder(Node divisor) {
            Known known = new Known(INT);
            if (divisor.alone == NUMBER && divisor.sum.plus > 0) {
                known.makeRoom(2);
                known.say(GE, new Sum());
                known.say('<', divisor.sum);
            }
            return known;
        }

        private Known walkLet(Node e, Scope scope) {
            e.told.known = walk(e.first, scope);
            Scope inner = new Scope(e.told, scope);
            Known whole = template(e.type, null, scope);
            fit(walk(e.second, inner), whole, inner);
            return whole;
        }

        private Known walkRec(Node e, Scope scope) {
            Known function = template(e.told.type, e.names, scope);
            e.told.known = function;
            Scope inner = new Scope(e.told, scope);
            fitBody(e, function, inner);
            Known whole = template(e.type, null, scope);
            fit(walk(e.second, inner), whole, inner);
            return whole;
        }

        private Known walkFunction(Node e, Scope scope) {
            Known function = template(e.type, e.names, scope);
            fitBody(e, function, scope);
            return function;
        }

        private void fitBody(Node e, Known function, Scope scope) {
            Scope inner = scope;
            Known answer = function;
            for (int i = 0; i < e.names.size(); i++) {
                inner = new Scope(e.names.get(i), inner);
                answer = answer.answered(null);
            }
            fit(walk(e.first, inner), answer, inner);
        }

        private Known walkIf(Node e, Scope scope) {
            Known whole = template(e.type, null, scope);
            Scope yes = new Scope(e.test, true, scope);
            fit(walk(e.first, yes), whole, yes);
            Scope no = new Scope(e.test, false, scope);
            fit(walk(e.second, no), whole, no);
            return whole;
        }

        /** Its test is whether the size is at most 0, so that the other way needs no trying. */
        private Known walkMatch(Node e, Scope scope) {
            Known whole = template(e.type, null, scope);
            Scope empty = new Scope(e.test, true, scope);
            fit(walk(e.first, empty), whole, empty);
            Scope some = new Scope(e.test, false, scope);
            e.names.get(0).known = new Known(INT);
            some = new Scope(e.names.get(0), some);
            e.names.get(1).known = Known.of(LIST, Sum.of(e.name, 1, -1));
            some = new Scope(e.names.get(1), some);
            fit(walk(e.second, some), whole, some);
            return whole;
        }

        private Known walkCall(Node e, Scope scope) {
            Known rest = e.name.known;
            for (int i = 0; i < e.parts.size() && rest.kind == FUN; i++) {
                Node a = e.parts.get(i);
                fit(walk(a, scope), rest.taken(), scope);
                boolean measured = rest.origin.parameter.isMeasured();
                rest = rest.answered(measured ? a.sum : null);
            }
            return rest;
        }

        /** The left one FITS the right; a parameter of the right counts, as a new NAME, in what is answered. */
        private void fit(Known left, Known right, Scope scope) {
            Known a = left;
            Known b = right;
            Scope inner = scope;
            for (int i = 0; i <= MOST_LEAVES && a.kind == FUN && b.kind == FUN; i++) {
                Known taken = b.taken();
                fit(taken, a.taken(), inner);
                Sum parameter = null;
                if (b.origin.parameter.isMeasured()) {
                    Name name = new Name(null, taken.kind);
                    name.known = taken;
                    inner = new Scope(name, inner);
                    parameter = Sum.of(name, 1, 0);
                }
                a = a.answered(parameter);
                b = b.answered(parameter);
            }
            if (b.kind != BOOL && b.origin.count > 0) {
                scopes.add(inner);
                lefts.add(a);
                rights.add(b);
            }
        }

        /** A TEMPLATE at a place; its first parameters have these NAMES (null: none has). */
        private Known template(int type, ArrayList<Name> names, Scope scope) {
            int count = 0;
            for (Scope s = scope; s != null; s = s.outer) {
                count += s.name != null && s.name.isMeasured() ? 1 : 0;
            }
            starCount = count;
            for (Scope s = scope; s != null; s = s.outer) {
                if (s.name != null && s.name.isMeasured() && count > 0) {
                    count--;
                    stars[count] = s.name;
                }
            }
            return shape(type, names, 0);
        }

        /** MOST_LEAVES keeps types low enough to go through. */
        private Known shape(int type, ArrayList<Name> names, int parameter) {
            Known known = new Known(types.kindOf(type));
            if (known.kind == FUN && parameter <= MOST_LEAVES) {
                boolean told = names != null && parameter < names.size();
                known.takes = shape(types.takenBy(type), null, 0);
                known.parameter = told ? names.get(parameter) : new Name(null, known.takes.kind);
                known.parameter.known = known.takes;
                int before = starCount;
                if (known.parameter.isMeasured() && starCount < stars.length) {
                    stars[starCount] = known.parameter;
                    starCount++;
                }
                known.answers = shape(types.answeredBy(type), names, parameter + 1);
                starCount = before;
            } else if (known.kind != BOOL) {
                sayInstances(known);
            }
            return known;
        }

        private void sayInstances(Known leaf) {
            int most = 0;
            for (int q = 0; q < program.qualCount; q++) {
                most += program.qualBases[q] != leaf.kind ? 0 : program.qualStars[q] == 0 ? 1 : starCount;
            }
            leaf.makeRoom(most);
            for (int q = 0; q < program.qualCount; q++) {
                if (program.qualBases[q] == leaf.kind && program.qualStars[q] == 0) {
                    leaf.say(program.qualRels[q], Sum.of(null, 0, program.qualNumbers[q]));
                } else if (program.qualBases[q] == leaf.kind) {
                    for (int i = 0; i < starCount; i++) {
                        leaf.say(program.qualRels[q], instance(stars[i], q));
                    }
                }
            }
        }

        private Sum instance(Name name, int q) {
            if (name.terms == null) {
                name.terms = new Sum[MOST_QUALS];
            }
            if (name.terms[q] == null) {
                name.terms[q] = Sum.of(name, program.qualStars[q], program.qualNumbers[q]);
            }
            return name.terms[q];
        }
    }

    /**
     * Runs a program. All that a run makes lies in one heap: a NAME with its value and the one that counted before
     * it (2 cells, also an ARG and the next one), a list (first int, rest, size), an array (length, elements), a
     * function (its number, what counted there, how many ARGS it has); 0 stands for none and for nil.
     */
    private static final class Machine {
        private static final int NO_FUEL = 1;
        private static final int TOO_MUCH = 2;
        private static final int ASSERT_FAILED = 3;
        private static final int DIVISION_BY_ZERO = 4;
        private static final int BEYOND_ARRAY = 5;
        private static final int BELOW_ZERO = 6;
        private static final long GREATEST = 1L << 40;
        private static final int MOST_ELEMENTS = 1000;
        private static final int MOST_ELEMENTS_IN_ALL = 10000;
        private static final int DEEPEST_CALL = 50;
        private static final int FIRST_FREE = 4;
        /** Each call that stands open has at most one let for each level of its text, and itself. */
        private static final int MOST_WAITING = (DEEPEST_CALL + 1) * (DEEPEST + 3);
        private Parser program;
        private int answerKind;
        /** The INPUTS: a number, a truth or a length, and an array's elements. */
        private final long[] given = new long[MOST_INPUTS];
        private final int[][] givenRows = new int[MOST_INPUTS][];
        private long[] heap = new long[64];
        private int top;
        /** What waits for a value: a let, or (null) a call that may have ARGS left. */
        private final Node[] waiting = new Node[MOST_WAITING];
        private final int[] waitingScopes = new int[MOST_WAITING];
        private final int[] waitingArguments = new int[MOST_WAITING];
        private int waitingCount;
        private int scope;
        private int fuelLeft;
        private int ending;
        private int depth;
        private int elements;
        private long result;
        long gave;
        int took;

        void forget() {
            program = null;
            gave = 0;
        }

        void take(Parser parser, int kind) {
            program = parser;
            answerKind = kind;
            Arrays.fill(given, 0);
        }

        boolean set(int i, int base, int v) {
            if (base == ARRAY) {
                if (v < 0 || v > MOST_ELEMENTS) {
                    return false;
                }
                if (givenRows[i] == null) {
                    givenRows[i] = new int[MOST_ELEMENTS];
                }
                Arrays.fill(givenRows[i], 0);
            }
            given[i] = base == BOOL && v != 0 ? 1 : v;
            return true;
        }

        boolean setElement(int i, int k, int v) {
            if (k < 0 || k >= given[i] || givenRows[i] == null) {
                return false;
            }
            givenRows[i][k] = v;
            return true;
        }

        int go(int fuel) {
            fuelLeft = fuel;
            ending = 0;
            begin();
            Node now = program.root;
            for (int i = 0; i < FAR && ending == 0 && (now != null || waitingCount > 0); i++) {
                now = now != null ? start(now) : resume();
            }
            took = fuel - fuelLeft;
            gave = ending == 0 ? measure(result, answerKind) : 0;
            return ending;
        }

        private void begin() {
            top = FIRST_FREE;
            waitingCount = 0;
            scope = 0;
            depth = 0;
            elements = 0;
            result = 0;
            for (int i = 0; i < program.inputCount; i++) {
                boolean array = program.told.get(i).base == ARRAY;
                scope = pair(array ? givenArray(i) : given[i], scope);
            }
        }

        private long givenArray(int i) {
            int array = array((int) given[i]);
            for (int k = 0; k < given[i] && givenRows[i] != null; k++) {
                heap[array + 1 + k] = givenRows[i][k];
            }
            return array;
        }

        private int room(int cells) {
            if (top + cells > heap.length) {
                heap = Arrays.copyOf(heap, 2 * (top + cells));
            }
            top += cells;
            return top - cells;
        }

        private int pair(long value, int next) {
            int cell = room(2);
            heap[cell] = value;
            heap[cell + 1] = next;
            return cell;
        }

        private int triple(long one, long two, long three) {
            int cell = room(3);
            heap[cell] = one;
            heap[cell + 1] = two;
            heap[cell + 2] = three;
            return cell;
        }

        private int array(int length) {
            int array = room(length + 1);
            heap[array] = length;
            // What an earlier run left there is wiped out.
            for (int i = 1; i <= length; i++) {
                heap[array + i] = 0;
            }
            elements += length;
            return array;
        }

        /** Begins an E: the E to go on with, or null when the result is there. */
        private Node start(Node e) {
            if (fuelLeft == 0) {
                ending = NO_FUEL;
                return null;
            }
            fuelLeft--;
            switch (e.kind) {
                case LET:
                    await(e, scope, 0);
                    return e.first;
                case REC:
                    scope = pair(0, scope);
                    // Made first, as making it may lay the heap anew.
                    int function = triple(e.number, scope, 0);
                    heap[scope] = function;
                    return e.second;
                case IF:
                    return holds(e.test) ? e.first : e.second;
                case ASSERT:
                    if (!holds(e.test) && ending == 0) {
                        ending = ASSERT_FAILED;
                    }
                    return e.first;
                case SET:
                    change(e);
                    return e.first;
                case MATCH:
                    return match(e);
                case '(':
                    return e.first;
                case CALL:
                    return call(e);
                default:
                    result = plain(e);
                    return null;
            }
        }

        private void await(Node e, int where, int arguments) {
            if (waitingCount == MOST_WAITING) {
                ending = TOO_MUCH;
                return;
            }
            waiting[waitingCount] = e;
            waitingScopes[waitingCount] = where;
            waitingArguments[waitingCount] = arguments;
            waitingCount++;
        }

        /** Goes on with what waits for the result. */
        private Node resume() {
            waitingCount--;
            Node e = waiting[waitingCount];
            if (e != null) {
                scope = pair(result, waitingScopes[waitingCount]);
                return e.second;
            }
            depth--;
            int arguments = waitingArguments[waitingCount];
            return arguments == 0 ? null : apply((int) result, arguments);
        }

        private Node call(Node e) {
            int first = 0;
            int last = 0;
            for (int i = 0; i < e.parts.size() && ending == 0; i++) {
                int cell = pair(argument(e.parts.get(i)), 0);
                if (last == 0) {
                    first = cell;
                } else {
                    heap[last + 1] = cell;
                }
                last = cell;
            }
            return ending == 0 ? apply((int) valueOf(e.name, e.counted), first) : null;
        }

        private long argument(Node a) {
            if (a.kind == SUM) {
                return a.alone == NAME ? valueOf(a.name, a.counted) : sum(a);
            }
            if (a.kind != FUN) {
                return a.kind == TRUE ? 1 : 0;
            }
            if (fuelLeft == 0) {
                ending = NO_FUEL;
                return 0;
            }
            fuelLeft--;
            return triple(a.number, scope, 0);
        }

        /** Gives a function ARGS as far as it takes them; those that it does not are for what it answers. */
        private Node apply(int function, int arguments) {
            Node code = program.functions.get((int) heap[function]);
            int inner = (int) heap[function + 1];
            int has = (int) heap[function + 2];
            int rest = arguments;
            while (has < code.names.size() && rest != 0) {
                inner = pair(heap[rest], inner);
                rest = (int) heap[rest + 1];
                has++;
            }
            if (has < code.names.size()) {
                result = triple(code.number, inner, has);
                return null;
            }
            if (depth == DEEPEST_CALL) {
                ending = TOO_MUCH;
                return null;
            }
            depth++;
            await(null, 0, rest);
            scope = inner;
            return code.first;
        }

        private void change(Node e) {
            int cell = elementOf(e);
            long value = ending == 0 ? sum(e.right) : 0;
            if (ending == 0) {
                heap[cell] = value;
            }
        }

        private int elementOf(Node e) {
            int array = (int) valueOf(e.name, e.counted);
            long index = sum(e.left);
            if (ending == 0 && (index < 0 || index >= heap[array])) {
                ending = BEYOND_ARRAY;
            }
            return ending == 0 ? array + 1 + (int) index : 0;
        }

        private Node match(Node e) {
            int list = (int) valueOf(e.name, e.counted);
            if (list == 0) {
                return e.first;
            }
            scope = pair(heap[list], scope);
            scope = pair(heap[list + 1], scope);
            return e.second;
        }

        /** The value of an E that is done at once. */
        private long plain(Node e) {
            switch (e.kind) {
                case TRUE:
                    return 1;
                case FUN:
                    return triple(e.number, scope, 0);
                case NEW:
                    return newArray(sum(e.left));
                case CONS:
                    return cons(e);
                case '*':
                    return product(sum(e.left), e.right);
                case '/':
                case '%':
                    return quotient(e);
                case '[':
                    return heap[elementOf(e)];
                case SUM:
                    return e.alone == NAME ? valueOf(e.name, e.counted) : sum(e);
                default:
                    return 0;
            }
        }

        private long newArray(long length) {
            if (ending == 0 && length < 0) {
                ending = BELOW_ZERO;
            } else if (ending == 0 && (length > MOST_ELEMENTS || elements + length > MOST_ELEMENTS_IN_ALL)) {
                ending = TOO_MUCH;
            }
            return ending == 0 ? array((int) length) : 0;
        }

        private long cons(Node e) {
            long first = sum(e.left);
            long rest = valueOf(e.name, e.counted);
            return triple(first, rest, measure(rest, LIST) + 1);
        }

        private long product(long left, Node other) {
            long right = ending == 0 ? sum(other) : 0;
            if (left != 0 && Math.abs(right) > GREATEST / Math.abs(left)) {
                ending = ending == 0 ? TOO_MUCH : ending;
                return 0;
            }
            return left * right;
        }

        private long quotient(Node e) {
            long left = sum(e.left);
            long right = ending == 0 ? sum(e.right) : 0;
            if (right == 0) {
                ending = ending == 0 ? DIVISION_BY_ZERO : ending;
                return 0;
            }
            return e.kind == '/' ? Math.floorDiv(left, right) : Math.floorMod(left, right);
        }

        private long sum(Node s) {
            long total = s.sum.plus;
            for (int i = 0; i < s.sum.count; i++) {
                Name name = s.sum.names[i];
                total += s.sum.times[i] * measure(valueOf(name, s.counted), name.base);
            }
            if (Math.abs(total) > GREATEST && ending == 0) {
                ending = TOO_MUCH;
            }
            return total;
        }

        /** What a value is as a number. */
        private long measure(long value, int kind) {
            int at = (int) value;
            switch (kind) {
                case ARRAY:
                    return heap[at];
                case LIST:
                    return at == 0 ? 0 : heap[at + 2];
                case FUN:
                    return 0;
                default:
                    return value;
            }
        }

        private long valueOf(Name name, int counted) {
            int cell = scope;
            for (int i = name.index + 1; i < counted; i++) {
                cell = (int) heap[cell + 1];
            }
            return heap[cell];
        }

        private boolean holds(Node c) {
            switch (c.kind) {
                case NOT:
                    return !holds(c.first);
                case AND:
                case OR:
                    boolean and = c.kind == AND;
                    for (int i = 0; i < c.parts.size() && ending == 0; i++) {
                        if (holds(c.parts.get(i)) != and) {
                            return !and;
                        }
                    }
                    return and;
                case TRUTH:
                    return valueOf(c.name, c.counted) != 0;
                case COMPARE:
                    return stands(sum(c.left), c.rel, c.right);
                default:
                    return c.kind == TRUE;
            }
        }

        private boolean stands(long left, int rel, Node other) {
            long right = ending == 0 ? sum(other) : 0;
            switch (rel) {
                case '<':
                    return left < right;
                case LE:
                    return left <= right;
                case '>':
                    return left > right;
                case GE:
                    return left >= right;
                default:
                    return (left == right) == (rel == '=');
            }
        }
    }
}
