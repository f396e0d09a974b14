import java.io.IOException;

/** Boundary cases of the promises 22 to 26, and of the terms about LOGS. */
public final class LogsEdgesTest {
    private static final int NONE = -1, BAD = -2, NOT = -3, FULL = -4, NULL = -11;
    private static final Edges.State NEW = Edges.State.NEW, FINE = Edges.State.FINE, FAULTY = Edges.State.FAULTY,
        TOO_MUCH = Edges.State.TOO_MUCH;
    private static final String THIRTY = "A(-|-|-),A(-|-),A(-|A(-|-|-|A>Bx))";
    private static Edges e;

    public static void main(String[] args) throws IOException {
        e = new Edges();
        fortyCodes();
        howItBegins();
        firstThatIsOut();
        whomToAsk();
        askNobody();
        log();
        asLongAsEachMayBe();
        noMoreThan40();
        clear();
        left();
        out();
        ask();
        e.end("LogsEdgesTest", 22, 26);
    }

    private static OnePlan logged(String plan, int... codes) {
        OnePlan x = Due.planned(plan);
        e.is("codes that came", Due.log(x, codes), codes.length);
        return x;
    }

    private static int[] many(int count, int code) {
        int[] codes = new int[count];
        java.util.Arrays.fill(codes, code);
        return codes;
    }

    // ---- terms

    private static void fortyCodes() {
        e.terms("A LOG: up to 40 CODES, as they came over the border.");
        OnePlan x = logged("4(3(A>Bx,A>Bx))", many(40, 123));
        e.is("all 40", x.count(3), 40);
        e.is("the first 24", x.left(24), 1);
        e.is("the first 25", x.left(25), 0);
        e.is("all 40", x.left(40), 0);
        e.is("out", x.out(0), 24);
        x = logged("-");
        Due.log(x, many(39, 5426));
        e.is("39", x.count(3), 39);
        e.is("the 40th", Due.log(x, 100), 1);
        e.is("the 41st", Due.log(x, 100), 0);
        e.is("40", x.count(3), 40);
    }

    private static void howItBegins() {
        e.terms("A HISTORY is LEFT by the first n of them, if for each two TALKERS what is among them from the one to "
            + "the other is how it begins in the HISTORY.");
        String plan = "A(A>Bx,B>Ay,A>Bz|A>Bx,A>Bw|A>Bx)";
        e.is("by none", logged(plan, 123).left(0), 7);
        e.is("all begin so", logged(plan, 123).left(1), 7);
        e.is("one begins so", logged(plan, 123, 122).left(2), 2);
        e.is("not the second ahead of the first", logged(plan, 122).left(1), 0);
        e.is("the other way between both", logged(plan, 1024).left(1), 1);
        e.is("any delays between unlike ways", logged(plan, 1024, 123, 125).left(3), 1);
        e.is("one too many", logged(plan, 123, 125, 123).left(3), 0);
        e.is("one too many for the shortest", logged(plan, 123, 125).left(2), 1);
        e.is("another word", logged(plan, 124).left(1), 0);
        e.is("to another one", logged(plan, 223).left(1), 0);
        e.is("from another one", logged(plan, 2123).left(1), 0);
        e.is("nothing is said at all", logged("-", 123).left(1), 0);
        for (int pair = 1; pair < 55; pair++) {
            int from = pair / 10;
            int to = pair % 10;
            if (to < 6 && from != to) {
                String talkers = (char) ('A' + from) + ">" + (char) ('A' + to);
                OnePlan x = logged(talkers + "a," + talkers + "z", 100 * pair, 100 * pair + 25);
                e.is("both from " + talkers, x.left(2), 1);
                x = logged(talkers + "a," + talkers + "z", 100 * pair, 100 * pair);
                e.is("the first one twice from " + talkers, x.left(2), 0);
            }
        }
    }

    private static void firstThatIsOut() {
        e.terms("OUT: the first of the LOG (from 0) with which no HISTORY is LEFT; NONE. BLAME: who said it.");
        String plan = "A(A>Bx,B>Cy|A>Bz,B>Cw)";
        int[][] logs = {{}, {123}, {123, 1224}, {5400}, {123, 1222}, {1222, 123}, {123, 1224, 123}, {123, 1224, 5429},
            {122, 123}};
        int[] outs = {NONE, NONE, NONE, 0, 1, 1, 2, 2, 0};
        int[] blames = {NONE, NONE, NONE, 5, 1, 0, 0, 5, 0};
        for (int i = 0; i < logs.length; i++) {
            OnePlan x = logged(plan, logs[i]);
            e.is("out of log " + i, x.out(0), outs[i]);
            e.is("blame of log " + i, x.out(1), blames[i]);
        }
        e.is("the first of two that are out", logged(plan, 123, 5400, 5300).out(0), 1);
        OnePlan x = logged("4(4(A>Bx)),4(A>Bx)", many(20, 123));
        Due.log(x, 2300);
        e.is("behind all that can be", x.out(0), 20);
        e.is("who said it", x.out(1), 2);
        String rounds = "4(A>Bx,B>Ax,C>Dx,D>Cx,E>Fx,F>Ex)"; // 24 words
        int[] all = new int[24];
        int[] one = {123, 1023, 2323, 3223, 4523, 5423};
        for (int i = 0; i < 24; i++) {
            all[i] = one[i % 6];
        }
        x = logged(rounds, all);
        e.is("all 24", x.left(24), 1);
        e.is("none is out", x.out(0), NONE);
        Due.log(x, many(16, 1023));
        e.is("the 25th of 40", x.out(0), 24);
        e.is("who said it", x.out(1), 1);
    }

    private static void whomToAsk() {
        e.terms("ASK: whom to ask for its LOOK, all having come to the end: the TALKER whose LOOKS at the HISTORIES "
            + "that are LEFT by all of the LOG (ahead of what is OUT) fall into the most unlike ones, of like ones the "
            + "least;");
        e.is("A and B see 2, the least", logged("A(A>Bx|A>By)").ask(), 0);
        e.is("E and F see 2, the least", logged("A(E>Fx|E>Fy)").ask(), 4);
        e.is("only F", logged("A(E>Fx,D>Fx|D>Fx,E>Fx)").ask(), 5);
        e.is("B sees 3", logged("A(A>Bx|A>Bx,B>Cx|A>By)").ask(), 1);
        String plan = "A(A>Bx,B>Cx|A>Bx,B>Cy|A>Bx,C>Dy|A>By,C>Dx)";
        e.is("of all four: A 2, B 4, C 4", logged(plan).ask(), 1);
        e.is("of the first three: A 1, B 3", logged(plan, 123).ask(), 1);
        e.is("of one", logged(plan, 123, 1223).ask(), NONE);
        e.is("ahead of what is OUT: three", logged(plan, 123, 5400, 1223).ask(), 1);
        e.is("ahead of what is OUT: all four", logged(plan, 5400, 124).ask(), 1);
        e.is("nobody sees any: the least", logged("C(-|-)").ask(), 0);
    }

    private static void askNobody() {
        e.terms("NONE: one HISTORY is LEFT, or the PLAN is TOO MUCH.");
        e.is("there is one alone", logged("A>Bx").ask(), NONE);
        e.is("one is LEFT", logged("A(A>Bx|A>By)", 123).ask(), NONE);
        e.is("one was LEFT ahead of what is OUT", logged("A(A>Bx|A>By)", 123, 124).ask(), NONE);
        e.is("two are LEFT", logged("A(A>Bx|A>By|A>By,B>Ax)", 124).ask(), 0);
        e.is("TOO MUCH", logged("4(4(4(A>Bx)))").ask(), NONE);
        e.is("TOO MUCH", logged("4(4(4(A>Bx)))", 5400).ask(), NONE);
    }

    // ---- promises

    private static void log() {
        e.promise(22, "CODES of a SHEET come behind the LOG, as many items as there are");
        for (Edges.State state : Edges.State.values()) {
            e.range(state, "log(#)", 0, 3);
        }
        for (int s = 0; s < 4; s++) {
            e.found(NEW, "log(" + s + ")", NULL);
        }
        e.found(FINE, "log(3)", NULL);
        e.found(FAULTY, "log(3)", NULL);
        e.found(TOO_MUCH, "log(3)", NULL);
        e.answers(FINE, "log(1)", 1); // 123, and then what may not be
        e.answers(FAULTY, "log(1)", 1);
        e.answers(TOO_MUCH, "log(1)", 1);
        e.answers(FINE, "log(0)", 0);
        e.refused(FINE, "log(0)", 0);
        OnePlan x = FINE.made();
        x.sheet(3, 2, 0);
        e.is("a SHEET of none", x.log(3), 0);
        e.is("behind it", x.count(3), 3);
        x.sheet(3, 0, 2);
        x.put(3, 0, 0, 101);
        x.put(3, 0, 1, 127);
        e.is("of bytes", x.log(3), 2);
        x.sheet(3, 1, 1);
        x.put(3, 1, 0, 5429);
        e.is("of shorts", x.log(3), 1);
        e.is("the SHEET stays", x.get(3, 1, 0), 5429);
        e.is("all of them", x.count(3), 6);
    }

    private static void asLongAsEachMayBe() {
        e.promise(22, "as long as each may be (TALKERS 0 to 5, unlike; words 0 to 29): how many. BAD; NULL.");
        int[] may = {100, 129, 500, 529, 1000, 1029, 4500, 4529, 5000, 5029, 5400, 5429};
        int[] mayNot = {0, 29, 99, 130, 199, 530, 600, 629, 999, 1100, 1129, 5030, 5430, 5500, 5529, 5600, 5999, 6000,
            6029, 6100, 9999, 10000, 10123, 20123, 65636, -1, -100, -99, -123, -1000, Integer.MIN_VALUE,
            Integer.MIN_VALUE + 123, Integer.MAX_VALUE};
        for (int code : may) {
            e.is("may be: " + code, Due.log(new OnePlan(), code), 1);
        }
        for (int code : mayNot) {
            OnePlan x = new OnePlan();
            e.is("may not be: " + code, Due.log(x, 123, code, 124), 1);
            e.is("those ahead of it have come, " + code, x.count(3), 1);
        }
        e.is("none ahead of it", Due.log(new OnePlan(), 0, 123), 0);
    }

    private static void noMoreThan40() {
        e.promise(22, "(No more than 40 in all.)");
        for (int size : new int[] {39, 40, 41, 60}) {
            OnePlan x = new OnePlan();
            e.is("of " + size, Due.log(x, many(size, 123)), Math.min(40, size));
            e.is("in all of " + size, x.count(3), Math.min(40, size));
        }
        OnePlan x = new OnePlan();
        Due.log(x, many(38, 123));
        e.is("two of three", Due.log(x, 124, 125, 126), 2);
        e.is("none of one", Due.log(x, 124), 0);
        OnePlan twin = new OnePlan();
        Due.log(twin, many(38, 123));
        Due.log(twin, 124, 125, 127);
        Due.log(twin, 124);
        e.alike("a full LOG", x, twin);
    }

    private static void clear() {
        e.promise(23, "The LOG is empty: how many it had.");
        e.answers(NEW, "clear()", 0);
        e.answers(FINE, "clear()", 3);
        e.answers(FAULTY, "clear()", 3);
        e.answers(TOO_MUCH, "clear()", 3);
        OnePlan x = new OnePlan();
        Due.log(x, many(60, 123));
        e.is("a full one", x.clear(), 40);
        e.is("an empty one", x.clear(), 0);
        e.is("room again", Due.log(x, many(60, 123)), 40);
        x = FINE.made();
        x.clear();
        e.is("nothing is OUT", x.out(0), NONE);
        e.is("all are LEFT", x.left(0), 15);
        e.is("no more of it", x.left(1), BAD);
    }

    private static void left() {
        e.promise(24, "HISTORIES LEFT by the first n of the LOG, as bits. BAD: n 0 to its length; NOT; FULL.");
        e.range(FINE, "left(#)", 0, 3);
        e.range(FAULTY, "left(#)", 0, 3);
        e.range(TOO_MUCH, "left(#)", 0, 3);
        e.range(NEW, "left(#)", 0, 0);
        int[] want = {15, 12, 4, 0};
        for (int n = 0; n <= 3; n++) {
            e.answers(FINE, "left(" + n + ")", want[n]);
            e.refused(FAULTY, "left(" + n + ")", NOT);
            e.refused(TOO_MUCH, "left(" + n + ")", FULL);
        }
        e.refused(NEW, "left(0)", NOT);
        OnePlan x = logged(THIRTY, many(40, 123));
        e.is("all 30", x.left(0), (1 << 30) - 1);
        e.is("every fifth of them", x.left(1), 1 << 4 | 1 << 9 | 1 << 14 | 1 << 19 | 1 << 24 | 1 << 29);
        e.is("all 40 of the LOG", x.left(40), 0);
        e.is("more than the LOG has", x.left(41), BAD);
    }

    private static void out() {
        e.promise(25, "OUT (what = 0), BLAME (1); NONE. BAD; NOT; FULL.");
        for (Edges.State state : Edges.State.values()) {
            if (state != NEW) {
                e.range(state, "out(#)", 0, 1);
            }
            e.refused(state, "out(2)", BAD);
            e.refused(state, "out(-1)", BAD);
        }
        e.answers(FINE, "out(0)", 2);
        e.answers(FINE, "out(1)", 0);
        for (int what = 0; what < 2; what++) {
            e.refused(NEW, "out(" + what + ")", NOT);
            e.refused(FAULTY, "out(" + what + ")", NOT);
            e.refused(TOO_MUCH, "out(" + what + ")", FULL);
            e.is("of an empty LOG", Due.planned("-").out(what), NONE);
        }
    }

    private static void ask() {
        e.promise(26, "ASK; NONE (also where the PLAN is TOO MUCH). NOT.");
        e.refused(NEW, "ask()", NOT);
        e.refused(FAULTY, "ask()", NOT);
        e.refused(TOO_MUCH, "ask()", NONE);
        e.refused(FINE, "ask()", NONE); // one is LEFT ahead of what is OUT
        OnePlan x = FINE.made();
        x.clear();
        e.is("of all four: A sees 3, B sees 4", x.ask(), 1);
    }
}
