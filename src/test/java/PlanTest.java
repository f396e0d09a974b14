/** Promises 1 to 8: a new object, and the plan. */
public final class PlanTest {
    private static final int NONE = -1, BAD = -2, NOT = -3, FULL = -4;
    private static final Due due = new Due();

    public static void main(String[] args) {
        newObject();
        typing();
        wiping();
        faultsOfPlans();
        faultsOfPrograms();
        planCounts();
        tellings();
        histories();
        tooMuch();
        said();
        due.end("PlanTest");
    }

    private static void newObject() {
        OnePlan x = new OnePlan();
        for (int what = 0; what < 4; what++) {
            due.is("new count " + what, x.count(what), 0);
        }
        due.is("new count 4", x.count(4), NOT);
        due.is("new count 5", x.count(5), NOT);
        due.is("new count 8", x.count(8), 0);
        due.is("new fault 0", x.fault(0), 0);
        due.is("new fault 1", x.fault(1), NONE);
        due.is("new tell", x.tell(0), 0);
        due.is("new clear", x.clear(), 0);
        for (int s = 0; s < 4; s++) {
            due.is("new lose " + s, x.lose(s), -11);
        }
        due.is("constants", 1000 * OnePlan.NONE + 100 * OnePlan.BAD + 10 * OnePlan.NOT + OnePlan.FULL, -1234);
    }

    private static void typing() {
        OnePlan x = new OnePlan();
        due.is("type(-1, 0)", x.type(-1, 0), BAD);
        due.is("type(2, 0)", x.type(2, 0), BAD);
        due.is("type(0, -1)", x.type(0, -1), BAD);
        due.is("type(0, 256)", x.type(0, 256), BAD);
        for (int i = 1; i <= 160; i++) {
            due.is("type 0 " + i, x.type(0, i % 2 == 0 ? 0 : 255), i);
        }
        due.is("type beyond 160", x.type(0, 65), FULL);
        due.is("type bad beyond 160", x.type(0, 256), BAD);
        for (int i = 1; i <= 80; i++) {
            due.is("type 1 " + i, x.type(1, 63), i);
        }
        due.is("type beyond 80", x.type(1, 65), FULL);
        due.is("count 0", x.count(0), 160);
        due.is("count 1", x.count(1), 80);
    }

    private static void wiping() {
        OnePlan x = new OnePlan();
        Due.type(x, 0, "A>Bx");
        Due.type(x, 1, "!Bx");
        x.tell(5);
        due.is("wipe(-1)", x.wipe(-1), BAD);
        due.is("wipe(2)", x.wipe(2), BAD);
        due.is("wipe(1)", x.wipe(1), 3);
        due.is("tellings stay", x.count(2), 5);
        due.is("plan stays", x.count(0), 4);
        due.is("wipe(1) again", x.wipe(1), 0);
        due.is("wipe(0)", x.wipe(0), 4);
        due.is("tellings go", x.count(2), 0);
        due.is("wipe(0) again", x.wipe(0), 0);
        due.is("fault behind wipe", x.fault(0), 0);
    }

    private static void planFault(String text, int want) {
        due.is("fault of " + text, Due.planned(text).fault(0), want);
    }

    private static void faultsOfPlans() {
        planFault("", 0);
        planFault("-", NONE);
        planFault("-,-", NONE);
        planFault("--", 1);
        planFault("-,", 2);
        planFault(",-", 0);
        planFault("A", 1);
        planFault("A>", 2);
        planFault("A>B", 3);
        planFault("A>Bx", NONE);
        planFault("F>Ez", NONE);
        planFault("A>Fa", NONE);
        planFault("G>Ax", 0);
        planFault("a>Ax", 0);
        planFault("A<Bx", 1);
        planFault("A>Ax", 2);
        planFault("A>Gx", 2);
        planFault("A>ax", 2);
        planFault("A>BX", 3);
        planFault("A>B{", 3);
        planFault("A>B`", 3);
        planFault("A>BxA>By", 4);
        planFault("A>Bx|-", 4);
        planFault("A>Bx)", 4);
        planFault("A>Bx, B>Ay", 5);
        planFault("A(", 2);
        planFault("A()", 2);
        planFault("A(|-)", 2);
        planFault("A(-", 3);
        planFault("A(-)", 3);
        planFault("A(-|", 4);
        planFault("A(-|)", 4);
        planFault("A(-|-", 5);
        planFault("A(-|-)", NONE);
        planFault("A(-|-|-|-)", NONE);
        planFault("A(-|-|-|-|-)", 9);
        planFault("A(-|-)(", 6);
        planFault("2", 1);
        planFault("2(", 2);
        planFault("2()", 2);
        planFault("2(-", 3);
        planFault("2(-)", NONE);
        planFault("4(-)", NONE);
        planFault("1(-)", 0);
        planFault("5(-)", 0);
        planFault("2>Bx", 1);
        planFault("2(-|-)", 3);
        planFault("A(2(-|-)|-)", 5);
        planFault("2(A(2(B(-|-)),-|3(-)))", NONE);
        planFault("2(A(2(B(C(-|-)|-)),-|3(-)))", 9);
        planFault("2(2(2(2(A>Bx,2(-)))))", 14);
        planFault("2(2(2(2(A>Bx),2(-))))", NONE);
        planFault("2(2(2(2(3", 9);
        planFault("A(A(-)|-)", 5);
        planFault("A(A(-|-|-|-)|-|-|-|-)", 18);
        due.is("fault(-1)", new OnePlan().fault(-1), BAD);
        due.is("fault(2)", new OnePlan().fault(2), BAD);
    }

    private static void programFault(String text, int want) {
        OnePlan x = new OnePlan();
        Due.type(x, 1, text);
        due.is("fault of program " + text, x.fault(1), want);
    }

    private static void faultsOfPrograms() {
        programFault("", NONE);
        programFault("|", NONE);
        programFault("|||||||", NONE);
        programFault("||||||||", 7);
        programFault("!Ax|||||||?Bz", NONE);
        programFault("!Ax|||||||?Bz|", 13);
        programFault("!", 1);
        programFault("!A", 2);
        programFault("!Ax", NONE);
        programFault("?Fz", NONE);
        programFault("!Aa", NONE);
        programFault("?Gz", 1);
        programFault("?@z", 1);
        programFault("?AZ", 2);
        programFault("?A{", 2);
        programFault("!Ax?By!Cz", NONE);
        programFault("!Ax,?By", 3);
        programFault("Ax", 0);
        programFault("!Ax|-", 4);
        programFault("!!", 1);
    }

    private static void planCounts() {
        OnePlan x = Due.planned("A(A>Bx,C(-|-)|2(E>Fx,E>Fx))");
        due.is("choices", x.plan(0), 2);
        due.is("used", x.plan(1), 1 + 2 + 4 + 16 + 32);
        due.is("words in the text", x.plan(2), 3);
        due.is("plan(3)", x.plan(3), BAD);
        due.is("plan(-1)", x.plan(-1), BAD);
        x.type(0, ',');
        due.is("plan with a fault", x.plan(0), NOT);
        due.is("plan(3) with a fault", x.plan(3), BAD);
        Due.retype(x, 0, "4(4(4(D(-|-))))");
        due.is("choices of one TOO MUCH", x.plan(0), 1);
        due.is("used of one TOO MUCH", x.plan(1), 8);
        due.is("words of one TOO MUCH", x.plan(2), 0);
    }

    private static void tellings() {
        OnePlan x = new OnePlan();
        due.is("tell(-1)", x.tell(-1), BAD);
        due.is("tell(2^30)", x.tell(1 << 30), BAD);
        due.is("tell of all", x.tell((1 << 30) - 1), 0);
        due.is("tell(3)", x.tell(3), (1 << 30) - 1);
        due.is("count 2", x.count(2), 3);
        Due.type(x, 0, "B(A>Cx|-|B>Cy)");
        x.tell(0b111111);
        due.is("histories", x.histories(), 3);
        due.is("told length", x.said(0, NONE), 6);
        int[] told = {1026, 1226, 1326, 1426, 1526, 223};
        for (int i = 0; i < told.length; i++) {
            due.is("told word " + i, x.said(0, i), told[i]);
        }
        due.is("told way 2", x.said(2, 0), 1028);
        due.is("told way 1", x.said(1, 4), 1527);
        due.is("nothing more", x.said(1, 5), NONE);
        x.tell(2);
        due.is("the one who chooses is not told", x.said(0, NONE), 1);
        x.tell(64);
        due.is("no such choice", x.said(0, NONE), 1);
        Due.retype(x, 0, "2(A(-|B(-|-)))");
        x.tell(1 << 6 | 1 << 1);
        due.is("rounds anew", x.histories(), 9);
        int[] last = {127, 1027, 127, 1027};
        due.is("told in rounds", x.said(8, NONE), 4);
        for (int i = 0; i < last.length; i++) {
            due.is("round word " + i, x.said(8, i), last[i]);
        }
        due.is("a middle one", x.said(1, 1), 127);
        due.is("a middle one", x.said(1, 2), 1026);
        sixthChoice();
    }

    private static void sixthChoice() {
        OnePlan x = Due.planned("A(-|A(-|A(-|A(-|-))),A(-|A(-|-)))");
        due.is("six choices", x.plan(0), 6);
        x.tell(0x2 | 0x80 | 0x2000 | 0x80000 | 0x2000000);
        int many = x.histories();
        due.is("histories of six choices", many, 1 + 4 * 3);
        due.is("words of the last: the sixth is not told", x.said(many - 1, NONE), 5);
    }

    private static void histories() {
        OnePlan x = Due.planned("A(A>Bx|A>By),2(B(B>Az|-|B>Aw))");
        due.is("histories", x.histories(), 18);
        due.is("first, 1", x.said(0, 1), 1025);
        due.is("second, length", x.said(1, NONE), 2);
        due.is("third, 2", x.said(2, 2), 1022);
        due.is("fourth, length", x.said(3, NONE), 2);
        due.is("tenth, 0", x.said(9, 0), 124);
        due.is("last, 2", x.said(17, 2), 1022);
        Due.retype(x, 0, "2(A>Bx,3(B>Ay)),-");
        due.is("one history", x.histories(), 1);
        due.is("its length", x.said(0, NONE), 8);
        due.is("its word 4", x.said(0, 4), 123);
        due.is("its word 7", x.said(0, 7), 1024);
        Due.retype(x, 0, "A>B");
        due.is("NOT", x.histories(), NOT);
    }

    private static void tooMuch() {
        OnePlan x = Due.planned("4(3(2(A>Bx)))");
        due.is("24 words", x.histories(), 1);
        due.is("24 words", x.said(0, NONE), 24);
        Due.type(x, 0, ",A>Bx");
        due.is("25 words", x.histories(), FULL);
        Due.retype(x, 0, "A(-|-|-|-|"); // a FAULT goes ahead of TOO MUCH
        due.is("fault ahead", x.histories(), NOT);
        Due.retype(x, 0, "A(-|-|-),A(-|-),A(-|A(-|-|-|-))");
        due.is("30 histories", x.histories(), 30);
        due.is("the last of 30", x.said(29, NONE), 0);
        Due.retype(x, 0, "A(-|-,A(-|-),A(-|-),A(-|-),A(-|-),A(-|-))");
        due.is("33 histories", x.histories(), FULL);
        Due.retype(x, 0, "A(-|-,A(-|A(-|A(-|-))|-),A(-|A(-|A(-|-))|-))");
        due.is("26 histories", x.histories(), 26);
        Due.retype(x, 0, "4(4(4(A(-|-))))");
        due.is("very many", x.histories(), FULL);
        Due.retype(x, 0, "4(4(4(4(-,-,-,-,-,-,-,-,-,-,-)))),A>Bx");
        due.is("rounds of nothing", x.said(0, NONE), 1);
        Due.retype(x, 0, "4(4(A>Bx)),A(4(B>Ay)|2(2(2(-))))");
        due.is("20 words", x.said(0, NONE), 20);
        due.is("a shorter one", x.said(1, NONE), 16);
        Due.retype(x, 0, "4(4(A>Bx)),A(4(2(B>Ay)),-|-)");
        due.is("24 words in a way", x.histories(), 2);
        x.tell(2);
        due.is("a telling counts", x.histories(), FULL);
        due.is("a telling counts for all", x.said(1, NONE), FULL);
        due.is("plan all the same", x.plan(0), 1);
        x.tell(1);
        due.is("none is told of its own", x.histories(), 2);
    }

    private static void said() {
        OnePlan x = Due.planned("A(A>Bx|-)");
        due.is("said(0, 0)", x.said(0, 0), 123);
        due.is("the least word of all", Due.planned("A>Ba,F>Ez").said(0, 0), 100);
        due.is("the greatest word of all", Due.planned("A>Ba,F>Ez").said(0, 1), 5425);
        due.is("said(0, 1)", x.said(0, 1), NONE);
        due.is("said(0, max)", x.said(0, Integer.MAX_VALUE), NONE);
        due.is("said(0, -2)", x.said(0, -2), BAD);
        due.is("said(1, -1)", x.said(1, -1), 0);
        due.is("said(2, 0)", x.said(2, 0), BAD);
        due.is("said(-1, 0)", x.said(-1, 0), BAD);
        x.type(0, ',');
        due.is("said(29, 0), NOT", x.said(29, 0), NOT);
        due.is("said(30, 0), BAD", x.said(30, 0), BAD);
        due.is("said(0, -2), BAD", x.said(0, -2), BAD);
        Due.retype(x, 0, "2(4(4(A>Bx)))");
        due.is("said(29, 0), FULL", x.said(29, 0), FULL);
        due.is("said(30, 0), BAD", x.said(30, 0), BAD);
    }
}
