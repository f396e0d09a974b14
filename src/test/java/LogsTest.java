/** Promises 22 to 26: logs. */
public final class LogsTest {
    private static final int NONE = -1, BAD = -2, NOT = -3, FULL = -4;
    private static final Due due = new Due();

    public static void main(String[] args) {
        codesThatMayBe();
        logAndClear();
        left();
        out();
        ask();
        refusals();
        due.end("LogsTest");
    }

    private static void codesThatMayBe() {
        for (int code = -6000; code < 8000; code++) {
            int from = Math.floorDiv(code, 1000);
            int to = Math.floorMod(Math.floorDiv(code, 100), 10);
            int word = Math.floorMod(code, 100);
            boolean may = from >= 0 && from <= 5 && to <= 5 && from != to && word <= 29;
            OnePlan x = new OnePlan();
            due.is("log of " + code, Due.log(x, code), may ? 1 : 0);
        }
        due.is("log of the least", Due.log(new OnePlan(), Integer.MIN_VALUE), 0);
        due.is("log of the most", Due.log(new OnePlan(), Integer.MAX_VALUE), 0);
    }

    private static void logAndClear() {
        OnePlan x = new OnePlan();
        due.is("log(-1)", x.log(-1), BAD);
        due.is("log(4)", x.log(4), BAD);
        due.is("log(0) of none", x.log(0), -11);
        due.is("the finding", x.count(8), 1);
        due.is("up to what may not be", Due.log(x, 123, 5, 124), 1);
        due.is("none", Due.log(x, 30), 0);
        due.is("count 3", x.count(3), 1);
        x.sheet(0, 0, 60);
        for (int i = 0; i < 60; i++) {
            x.put(0, 0, i, 100);
        }
        due.is("no more than 40", x.log(0), 39);
        due.is("count 3", x.count(3), 40);
        due.is("no room", x.log(0), 0);
        due.is("clear", x.clear(), 40);
        due.is("clear again", x.clear(), 0);
        x.sheet(1, 1, 0);
        due.is("an empty sheet", x.log(1), 0);
        Due.retype(x, 0, "A>Bx,");
        due.is("a FAULT does not matter", Due.log(x, 123), 1);
        x.wipe(0);
        due.is("the LOG stays", x.count(3), 1);
    }

    private static void left() {
        OnePlan x = Due.planned("A(A>Bx,B>Cy,A>Bz|A>Bx,A>Bz|A>Bw|A>Bx,A>By)");
        Due.log(x, 1224, 123, 125, 125);
        due.is("left(0)", x.left(0), 15);
        due.is("left(1)", x.left(1), 1);
        due.is("left(3)", x.left(3), 1);
        due.is("left(4)", x.left(4), 0);
        due.is("left(5)", x.left(5), BAD);
        due.is("left(-1)", x.left(-1), BAD);
        x.clear();
        due.is("left(1) of none", x.left(1), BAD);
        Due.log(x, 123, 125, 1224);
        due.is("left(1)", x.left(1), 11);
        due.is("left(2)", x.left(2), 3);
        due.is("any order between unlike two", x.left(3), 1);
        Due.retype(x, 0, "A(-|-|-),A(-|-),A(-|A(-|-|-|-))");
        due.is("left of 30", x.left(0), (1 << 30) - 1);
        x.wipe(0);
        Due.type(x, 0, "A(A>Bx|A>Bx)");
        x.tell(2);
        x.clear();
        Due.log(x, 127);
        due.is("left by a telling", x.left(1), 2);
    }

    private static void out() {
        OnePlan x = Due.planned("A(A>Bx,B>Ay|A>Bz,B>Aw)");
        due.is("nothing is out", x.out(0), NONE);
        due.is("nobody", x.out(1), NONE);
        Due.log(x, 123, 1022);
        due.is("out: no one HISTORY has both", x.out(0), 1);
        due.is("blame", x.out(1), 1);
        due.is("out(2)", x.out(2), BAD);
        due.is("out(-1)", x.out(-1), BAD);
        x.clear();
        Due.log(x, 1024, 123);
        due.is("delays don't matter", x.out(0), NONE);
        Due.log(x, 123);
        due.is("too many", x.out(0), 2);
        due.is("blame", x.out(1), 0);
        x.clear();
        Due.log(x, 5400);
        due.is("unused", x.out(0), 0);
        due.is("blame", x.out(1), 5);
    }

    private static void ask() {
        OnePlan x = Due.planned("A(A>Bx,B>Cy|A>Bx,B>Cz|A>Bw,B>Cz)");
        due.is("A sees 2, B sees 3", x.ask(), 1);
        Due.log(x, 1225);
        due.is("A sees 2 of those that are left", x.ask(), 0);
        Due.log(x, 124);
        due.is("ahead of what is out", x.out(0), 1);
        due.is("ahead of what is out", x.ask(), 0);
        x.clear();
        Due.log(x, 122);
        due.is("one is left", x.ask(), NONE);
        x.clear();
        Due.retype(x, 0, "C(-|-)");
        due.is("nobody sees any", x.ask(), 0);
        Due.retype(x, 0, "A>Bx");
        due.is("one history", x.ask(), NONE);
        Due.retype(x, 0, "B(B>Cx|B>Cy|B>Cx,C>Dx|B>Cy,D>Cx)");
        due.is("B 2, C 4, D 3", x.ask(), 2);
        Due.retype(x, 0, "2(4(4(A>Bx)))");
        due.is("TOO MUCH", x.ask(), NONE);
        x.type(0, ',');
        due.is("NOT", x.ask(), NOT);
    }

    private static void refusals() {
        OnePlan x = Due.planned("A>Bx,");
        due.is("left, NOT", x.left(0), NOT);
        due.is("left, BAD first", x.left(1), BAD);
        due.is("out, NOT", x.out(0), NOT);
        due.is("out, BAD first", x.out(2), BAD);
        Due.retype(x, 0, "2(4(4(A>Bx)))");
        due.is("left, FULL", x.left(0), FULL);
        due.is("left, BAD first", x.left(1), BAD);
        due.is("out, FULL", x.out(1), FULL);
        due.is("out, BAD first", x.out(-1), BAD);
    }
}
