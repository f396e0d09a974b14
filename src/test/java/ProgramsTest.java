/** Promises 20 and 21: programs. */
public final class ProgramsTest {
    private static final int NONE = -1, BAD = -2, NOT = -3, FULL = -4;
    private static final Due due = new Due();

    public static void main(String[] args) {
        String choice = "A(A>Bx,B>Ay|A>Bz,A>Bw)";
        breachIs(choice, 0, "!Bx?By|!Bz!Bw", NONE);
        breachIs(choice, 0, "!Bx?By", NONE); // it need not say all that it can
        breachIs(choice, 0, "!Bz!Bw", NONE);
        breachIs(choice, 0, "!Bz", 1); // it must say something
        breachIs(choice, 0, "!Bx?By|!Bz", 1);
        breachIs(choice, 0, "!Bx", 1); // it must get
        breachIs(choice, 0, "", 0);
        breachIs(choice, 0, "!Bq", 0); // it may not say that
        breachIs(choice, 0, "!Cx", 0);
        breachIs(choice, 0, "!Bx?By!Bz|!Bz!Bw", 2); // it may not say more at the end
        breachIs(choice, 0, "!Bx?By?Bz", NONE); // it may be ready to get more
        breachIs(choice, 0, "!Bx?By|?Bx!Bq", NONE); // what no LOOK begins with is not looked at
        breachIs(choice, 0, "!Ax", 0); // to itself
        breachIs(choice, 1, "?Ax!Ay|?Az?Aw", NONE);
        breachIs(choice, 1, "?Ax!Ay|?Az", 1);
        breachIs(choice, 1, "?Ax!Ay", 0);
        breachIs(choice, 1, "?Ax|?Az?Aw", 1);
        breachIs(choice, 1, "?Ax!Ay|?Az?Aw|?Aq!Aq", NONE);
        breachIs(choice, 1, "?Ax!Ay!Ay|?Az?Aw", 2);
        breachIs(choice, 1, "?Ax!Ay|?Ax!Az|?Az?Aw", 1);
        breachIs(choice, 2, "", NONE);
        breachIs(choice, 2, "?Ax", NONE);
        breachIs(choice, 2, "!Ax", 0);
        breachIs(choice, 2, "|!Ax", 0);
        // one LOOK ends where another says: it may end, too
        breachIs("A(A>Bx|A>Bx,A>By)", 0, "!Bx", NONE);
        breachIs("A(A>Bx|A>Bx,A>By)", 0, "!Bx!By", NONE);
        breachIs("A(A>Bx|-)", 0, "", NONE);
        // one LOOK gets where another says: it need only be ready to get
        breachIs("A(A>Bx|B>Ay)", 0, "?By", NONE);
        breachIs("A(A>Bx|B>Ay)", 0, "!Bx", 0);
        breachIs("A(A>Bx|B>Ay)", 0, "!Bx|?By", NONE);
        // a breach further on is not the first one
        breachIs("A(A>Bx,A>Bx,A>Bx|A>By,A>By)", 0, "!Bx!Bx|!By", 1);
        breachIs("A(A>Bx,A>Bx,A>Bx|A>By,A>By)", 0, "!Bx!Bx|!By!By", 2);
        // a ROW ends where it ends, though another one stands behind it
        breachIs("A>Bx,B>Ay", 0, "!Bx|?By", 1);
        breachIs("A>Bx,A>By", 0, "!Bx|!By", 0);
        breachIs("A(A>Bx,A>By|A>By)", 0, "!Bx|!By", 1);
        eightRows();
        otherPlan();
        longOne();
        tellings();
        refusals();
        due.end("ProgramsTest");
    }

    private static void breachIs(String plan, int talker, String program, int want) {
        OnePlan x = Due.planned(plan);
        Due.type(x, 1, program);
        due.is("breach of " + program + " for " + talker + " of " + plan, x.breach(talker), want);
        due.is("fits of " + program + " for " + talker + " of " + plan, x.fits(talker), want == NONE ? 1 : 0);
    }

    private static void eightRows() {
        String plan = "A(A>Ba,B>Ah|A>Bb|A>Bc|A(A>Bd|A>Be|A>Bf|A>Bg,B>Ai))";
        breachIs(plan, 1, "?Ab|?Ac|?Ad|?Ae|?Af|?Aq|?Ag!Ai|?Aa!Ah", NONE);
        breachIs(plan, 1, "?Ab|?Ac|?Ad|?Ae|?Af|?Aq|?Ag!Ai|?Aa", 1);
        breachIs(plan, 1, "?Ab|?Ac|?Ad|?Ae|?Af|?Aq|?Ag!Ai|", 0);
        breachIs(plan, 1, "?Ab|?Ac|?Ad|?Ae|?Af|?Aq|?Ag!Ai|!Aa", 0);
    }

    /** LOOKS of a PLAN that is no more do not count. */
    private static void otherPlan() {
        OnePlan x = Due.planned("A>Bx,A>By");
        Due.type(x, 1, "!Bx!By");
        due.is("the longer plan", x.breach(0), NONE);
        Due.retype(x, 0, "A>Bx");
        due.is("the shorter plan", x.breach(0), 1);
        Due.retype(x, 1, "!Bx");
        due.is("the shorter program", x.breach(0), NONE);
        Due.retype(x, 0, "A(A>Bx|A>Bx,B>Ay)");
        due.is("another plan", x.breach(0), 1);
    }

    private static void longOne() {
        StringBuilder acts = new StringBuilder();
        for (int i = 0; i < 24; i++) {
            acts.append("!Bx");
        }
        breachIs("4(3(2(A>Bx)))", 0, acts.toString(), NONE);
        breachIs("4(3(2(A>Bx)))", 0, acts + "!Bx", 24);
        breachIs("4(3(2(A>Bx)))", 0, acts + "?Bx", NONE);
        breachIs("4(3(2(A>Bx)))", 0, acts.substring(3), 23);
    }

    private static void tellings() {
        OnePlan x = Due.planned("A(A>Bx|-)");
        Due.type(x, 1, "?Ax");
        due.is("without a telling", x.fits(1), 1);
        x.tell(2);
        due.is("no program gets a telling", x.breach(1), 0);
        due.is("fits not", x.fits(1), 0);
    }

    private static void refusals() {
        OnePlan x = Due.planned("A>Bx,");
        due.is("fits(-1)", x.fits(-1), BAD);
        due.is("breach(6)", x.breach(6), BAD);
        due.is("fits, a FAULT of the plan", x.fits(0), NOT);
        due.is("breach, a FAULT of the plan", x.breach(0), NOT);
        Due.retype(x, 0, "2(4(4(A>Bx)))");
        due.is("fits, FULL", x.fits(0), FULL);
        due.is("breach, FULL", x.breach(0), FULL);
        x.type(1, 'x');
        due.is("fits, a FAULT of the program ahead of FULL", x.fits(0), NOT);
        due.is("breach, a FAULT of the program ahead of FULL", x.breach(0), NOT);
        due.is("histories don't mind", x.histories(), FULL);
        Due.retype(x, 0, "A>Bx");
        due.is("fits, a FAULT of the program", x.fits(0), NOT);
        due.is("breach(6), BAD first", x.breach(6), BAD);
    }
}
