/** Promises 9 to 14: looks, and who can know. */
public final class LooksTest {
    private static final int NONE = -1, BAD = -2, NOT = -3, FULL = -4;
    private static final Due due = new Due();

    public static void main(String[] args) {
        look();
        looks();
        parts();
        sound();
        moment();
        mended();
        refusals("A>Bx,", NOT);
        refusals("2(4(4(A>Bx)))", FULL);
        due.end("LooksTest");
    }

    private static void look() {
        OnePlan x = Due.planned("A>Bx,B(B>Cy,C>Az|B>Aw),A>Bx");
        int[] ofA = {10123, 22025, 10123};
        due.is("length", x.look(0, 0, NONE), 3);
        for (int i = 0; i < ofA.length; i++) {
            due.is("A's act " + i, x.look(0, 0, i), ofA[i]);
        }
        due.is("beyond", x.look(0, 0, 3), NONE);
        due.is("B's act 1", x.look(1, 0, 1), 11224);
        due.is("B's act 1 at the other", x.look(1, 1, 1), 11022);
        due.is("C's act 0", x.look(2, 0, 0), 21224);
        due.is("C sees nothing", x.look(2, 1, NONE), 0);
        due.is("C sees nothing", x.look(2, 1, 0), NONE);
        due.is("F sees nothing", x.look(5, 0, NONE), 0);
        due.is("look(6, ..)", x.look(6, 0, 0), BAD);
        due.is("look(-1, ..)", x.look(-1, 0, 0), BAD);
        due.is("look(.., 30, ..)", x.look(0, 30, 0), BAD);
        due.is("look(.., 2, ..)", x.look(0, 2, 0), BAD);
        due.is("look(.., -2)", x.look(0, 0, -2), BAD);
        x.tell(1 << 5);
        due.is("F is told", x.look(5, 1, 0), 21527);
        due.is("B tells", x.look(1, 1, 1), 11527);
    }

    private static void looks() {
        OnePlan x = Due.planned("A(A>Bx|A>By,A>Cz|A>Bx,A>Cz|A>Bx)");
        due.is("looks of A", x.looks(0), 3);
        due.is("looks of B", x.looks(1), 2);
        due.is("looks of C", x.looks(2), 2);
        due.is("looks of D", x.looks(3), 1);
        due.is("looks(6)", x.looks(6), BAD);
        due.is("looks(-1)", x.looks(-1), BAD);
        x.tell(8);
        due.is("looks of D that is told", x.looks(3), 4);
    }

    private static void parts() {
        OnePlan x = Due.planned("A(B(-|-)|-),2(C(-|-))");
        due.is("histories", x.histories(), 12);
        due.is("parts(0, 1)", x.parts(0, 1), 2);
        due.is("parts(0, 3)", x.parts(0, 3), 2);
        due.is("parts(0, 4)", x.parts(0, 4), 1);
        due.is("parts(7, 3)", x.parts(7, 3), 1);
        due.is("parts(3, 8)", x.parts(3, 8), 0);
        due.is("parts(11, 7)", x.parts(11, 7), 0);
        due.is("parts(8, 11)", x.parts(8, 11), 2);
        due.is("parts(0, 0)", x.parts(0, 0), BAD);
        due.is("parts(0, 12)", x.parts(0, 12), BAD);
        due.is("parts(12, 0)", x.parts(12, 0), BAD);
        due.is("parts(0, 30)", x.parts(0, 30), BAD);
        due.is("parts(-1, 0)", x.parts(-1, 0), BAD);
    }

    private static void soundIs(String text, int want) {
        due.is("sound of " + text, Due.planned(text).sound(), want);
        due.is("count 5 of " + text, Due.planned(text).count(5), want);
    }

    private static void sound() {
        soundIs("-", 1);
        soundIs("A>Bx,B>Cy", 1);
        soundIs("A(A>Bx|A>By)", 1);
        soundIs("A(A>Bx|-)", 0); // B: one ends
        soundIs("A(A>Bx|A>Bx,A>By)", 0); // B: one ends
        soundIs("A(A>Bx|A>Cy)", 0); // B: one ends
        soundIs("A(A>Bx,A>Cx|A>Cy,A>By)", 1); // both get
        soundIs("A(A>Bx,B>Cx|A>By,B>Cy)", 1);
        soundIs("A(A>Bx,B>Cx|A>Bx,B>Cy)", 0); // B says otherwise
        soundIs("A(A>Bx|B>Ay)", 0); // B gets or says
        soundIs("B(A>Bx|A>By)", 0); // A says otherwise and does not PART
        soundIs("B(A>Bx|A>Bx)", 1); // nothing is otherwise
        soundIs("A(-|-)", 1);
        soundIs("A(A(A>Bx|A>By)|A>Bz)", 1);
        soundIs("A(B(B>Cx|B>Cy)|-)", 0); // B does not PART 0 and 2
        soundIs("2(A(A>Bx|A>By))", 1);
    }

    private static void moment() {
        OnePlan x = Due.planned("A(A>Bx,A>Cz|A>Bx,A>Cz|A>Bx,B>Cy|A>Bx)");
        // B: HISTORIES 0 and 1 end where 2 says something; C: 3 ends
        due.is("talker", x.moment(0), 1);
        due.is("history", x.moment(1), 0);
        due.is("other", x.moment(2), 2);
        due.is("place", x.moment(3), 1);
        due.is("moment(4)", x.moment(4), BAD);
        due.is("moment(-1)", x.moment(-1), BAD);
        Due.retype(x, 0, "A(A>Bx|A>By|A>Bx,A>Bw|A>By,B>Cz)");
        due.is("talker", x.moment(0), 1);
        due.is("history", x.moment(1), 0);
        due.is("other", x.moment(2), 2);
        due.is("place", x.moment(3), 1);
        Due.retype(x, 0, "A(A>Bx|A>By)");
        for (int what = 0; what < 4; what++) {
            due.is("none", x.moment(what), NONE);
        }
    }

    private static void mendedIs(String text, int want) {
        OnePlan x = Due.planned(text);
        due.is("mended of " + text, x.mended(), want);
        if (want >= 0) {
            x.tell(want);
            due.is("sound with it: " + text, x.sound(), 1);
            due.is("mended whatever is set: " + text, x.mended(), want);
            due.is("still set: " + text, x.count(2), want);
            due.is("still sound: " + text, x.sound(), 1);
        }
    }

    private static void mended() {
        mendedIs("A(A>Bx|A>By)", 0);
        mendedIs("A(A>Bx|-)", 2);
        mendedIs("A(A>Bx|A>Cx)", 6);
        mendedIs("A(A>Bx|-),A(A>Bx|-)", 2 << 6); // of the second alone: the first is seen by then
        mendedIs("A(-|A(A>Bx|-))", 2 | 2 << 6);
        mendedIs("B(A>Bx|A>By)", 1);
        mendedIs("-", 0);
        // the sixth choice can't be told of: B can never know
        mendedIs("A(-|A(-|A(-|A(-|-))),A(-|A(A>Bx|-)))", NONE);
        // three choices and three TALKERS: six TELLINGS; with a fourth TALKER nine
        mendedIs("A(A>Bx|A>Bx),A(A>Cx|A>Cx),A(-|-)", 0);
        mendedIs("A(A>Bx|A>Bx),A(A>Cx|A>Cx),A(D>Ax|D>Ax)", FULL);
        mendedIs("A(A>Bx,A>Cx,A>Dx,A>Ex,A>Fx|-)", 62);
        mendedIs("A(A>Bx,A>Cx,A>Dx,A>Ex,A>Fx|-),A(-|-)", FULL);
        // of two that do as well the least: A tells C, or B tells C
        String two = "A(A>Bx,B(B>Cx|B>Cx)|A>By,B(B>Cx|B>Cx,C>By))";
        mendedIs(two, mendedByAll(two));
        tooMuchOnTheWay();
    }

    /** Every set of TELLINGS of USED TALKERS of two or three choices, by the calls themselves. */
    private static int mendedByAll(String text) {
        OnePlan x = Due.planned(text);
        int used = x.plan(1);
        int best = NONE;
        for (int bits = 0; bits < 1 << 6 * x.plan(0); bits++) {
            boolean allUsed = true;
            for (int choice = 0; choice < x.plan(0); choice++) {
                allUsed &= (bits >> 6 * choice & 63 & ~used) == 0;
            }
            if (allUsed) {
                x.tell(bits);
                if (x.sound() == 1 && (best == NONE || Integer.bitCount(bits) < Integer.bitCount(best))) {
                    best = bits;
                }
            }
        }
        return best;
    }

    private static void tooMuchOnTheWay() {
        OnePlan x = Due.planned("4(3(A>Bx,B>Ay)),A(-|-)");
        x.tell(2);
        due.is("TOO MUCH with what is set", x.sound(), FULL);
        due.is("mended does not mind", x.mended(), 0);
        Due.retype(x, 0, "4(3(A>Bx,B>Ay)),A(-|-),A>Bx");
        due.is("TOO MUCH without any", x.mended(), FULL);
        // only a telling would help, and there is no room for it
        Due.retype(x, 0, "4(3(A>Bx,B>Ay)),A(-|C(-|-))");
        due.is("sound", x.mended(), 0);
        Due.retype(x, 0, "4(3(A>Bx)),2(4(A>Bx)),2(A>Bx),B(A>Bx|-)");
        due.is("mended in the last room", x.mended(), 1);
        Due.retype(x, 0, "4(3(A>Bx)),4(A>Bx),4(A>Bx),2(A>Bx),A>Bx,B(A>Bx|-)");
        due.is("no room", x.mended(), NONE);
    }

    private static void refusals(String text, int want) {
        OnePlan x = Due.planned(text);
        due.is("look of " + text, x.look(0, 29, 0), want);
        due.is("looks of " + text, x.looks(0), want);
        due.is("parts of " + text, x.parts(28, 29), want);
        due.is("sound of " + text, x.sound(), want);
        due.is("moment of " + text, x.moment(0), want);
        due.is("mended of " + text, x.mended(), want);
        due.is("look, BAD first", x.look(6, 0, 0), BAD);
        due.is("looks, BAD first", x.looks(6), BAD);
        due.is("parts, BAD first", x.parts(30, 0), BAD);
        due.is("parts of the same, BAD first", x.parts(1, 1), BAD);
        due.is("moment, BAD first", x.moment(4), BAD);
    }
}
