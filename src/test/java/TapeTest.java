/** Promises 1 to 3: a new object, feed and end; and what of the tape compile() takes. */
public final class TapeTest {
    public static void main(String[] args) {
        Due due = new Due("TapeTest");
        newObject(due);
        feeding(due);
        ending(due);
        due.close();
    }

    private static void newObject(Due due) {
        LiquidTongue tongue = new LiquidTongue();
        due.is("accepted()", tongue.accepted(), -1);
        due.is("place()", tongue.place(), -1);
        due.is("type(0)", tongue.type(0), -1);
        due.is("out(-1)", tongue.out(-1), 0);
        due.is("out(0)", tongue.out(0), -1);
        due.is("give(0, 1)", tongue.give(0, 1), false);
        due.is("element(0, 0, 1)", tongue.element(0, 0, 1), false);
        due.is("run(10)", tongue.run(10), -1);
        due.is("value()", tongue.value(), 0);
        due.is("fuel()", tongue.fuel(), 0);
        due.is("end(0)", tongue.end(0), true);
        due.is("end(1)", tongue.end(1), false);
        due.is("compile()", tongue.compile(), 2);
        due.is("place()", tongue.place(), 0);
    }

    private static void feeding(Due due) {
        LiquidTongue tongue = new LiquidTongue();
        // "1+2+3+4+" and so on: the highest byte of each number comes first.
        due.is("feed", tongue.feed(0x312b322b, 0x332b342b, 0x352b362b, 0x372b382b, 0x39202020), true);
        due.is("compile()", tongue.compile(), 0);
        due.is("run(1)", tongue.run(1), 0);
        due.is("value()", tongue.value(), 45);
        for (int i = 0; i < 100; i++) {
            due.is("feed number " + i, tongue.feed(0x20202020, 0x20202020, 0x20202020, 0x20202020, 0x20202020), true);
        }
        due.is("feed beyond 2000", tongue.feed(1, 2, 3, 4, 5), false);
        due.is("end(2001)", tongue.end(2001), false);
        due.is("end(1999)", tongue.end(1999), true);
        due.is("feed beyond 2000 by 19", tongue.feed(1, 2, 3, 4, 5), false);
        due.is("end(1981)", tongue.end(1981), true);
        due.is("feed beyond 2000 by 1", tongue.feed(1, 2, 3, 4, 5), false);
        due.is("end(1980)", tongue.end(1980), true);
        due.is("feed up to 2000", tongue.feed(0x37202020, 0x20202020, 0x20202020, 0x20202020, 0x20202020), true);
        due.is("compile()", tongue.compile(), 0);
        due.is("run(1)", tongue.run(1), 0);
        due.is("value()", tongue.value(), 7);
        due.is("end(1) behind compile()", tongue.end(1), false);
        due.is("feed", tongue.feed(0xff202020, 0x20202020, 0x20202020, 0x20202020, 0x20202020), true);
        due.is("compile() of byte 255", tongue.compile(), 1);
        due.is("place()", tongue.place(), 0);
    }

    private static void ending(Due due) {
        LiquidTongue tongue = new LiquidTongue();
        Due.feed(tongue, "12345678");
        due.is("end(-1)", tongue.end(-1), false);
        due.is("end(9)", tongue.end(9), false);
        due.is("end(8)", tongue.end(8), true);
        due.is("end(3)", tongue.end(3), true);
        due.is("end(4)", tongue.end(4), false);
        due.is("compile()", tongue.compile(), 0);
        due.is("run(1)", tongue.run(1), 0);
        due.is("value()", tongue.value(), 123);
        Due.feed(tongue, "1");
        Due.feed(tongue, "");
        due.is("compile() behind end(0)", tongue.compile(), 2);
    }
}
