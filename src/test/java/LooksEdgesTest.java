import java.io.IOException;

/** Boundary cases of the promises 9 to 14, and of the terms about LOOKS, who can know, and TELLINGS that mend. */
public final class LooksEdgesTest {
    private static final int NONE = -1, BAD = -2, NOT = -3, FULL = -4;
    private static final Edges.State NEW = Edges.State.NEW, FINE = Edges.State.FINE, FAULTY = Edges.State.FAULTY,
        TOO_MUCH = Edges.State.TOO_MUCH;
    private static final String THIRTY = "A(-|-|-),A(-|-),A(-|A(-|-|-|-))";
    private static Edges e;

    public static void main(String[] args) throws IOException {
        e = new Edges();
        codes();
        lookOfATalker();
        whoParts();
        goOnOtherwise();
        unlessItParts();
        bothGet();
        soundIfNone();
        leastTalker();
        leastHistories();
        placeInItsLook();
        fewestTellings();
        sixTellingsAtMost();
        firstFiveChoices();
        notTooMuch();
        leastAsBits();
        notEvenWithAll();
        look();
        looks();
        parts();
        sound();
        moment();
        mended();
        e.end("LooksEdgesTest", 9, 14);
    }

    private static void sound(String text, int want) {
        e.is("sound of " + text, Due.planned(text).sound(), want);
    }

    private static void moment(String text, int talker, int history, int other, int place) {
        OnePlan x = Due.planned(text);
        int[] want = {talker, history, other, place};
        for (int what = 0; what < 4; what++) {
            e.is("moment " + what + " of " + text, x.moment(what), want[what]);
        }
    }

    private static void mended(String text, int want) {
        e.is("mended of " + text, Due.planned(text).mended(), want);
    }

    // ---- terms

    private static void codes() {
        e.terms("CODE of what is said: 1000 times who says, 100 times who gets it, and the word (0 to 25; 26 and the "
            + "WAY, from 0, of a telling).");
        for (int from = 0; from < 6; from++) {
            for (int to = 0; to < 6; to++) {
                if (from != to) {
                    String talkers = (char) ('A' + from) + ">" + (char) ('A' + to);
                    OnePlan x = Due.planned(talkers + "a," + talkers + "z");
                    e.is("the least word of " + talkers, x.said(0, 0), 1000 * from + 100 * to);
                    e.is("the greatest word of " + talkers, x.said(0, 1), 1000 * from + 100 * to + 25);
                }
            }
        }
        OnePlan x = Due.planned("F(-|-|-|-)");
        x.tell(16);
        e.is("the telling of the first WAY", x.said(0, 0), 5426);
        e.is("the telling of the fourth WAY", x.said(3, 0), 5429);
    }

    private static void lookOfATalker() {
        e.terms("LOOK of a TALKER at a HISTORY: what it says and gets, in order.");
        OnePlan x = Due.planned("A>Bx,C>Dx,B>Ay,A>Cz");
        int[][] want = {{10123, 21024, 10225}, {20123, 11024}, {12323, 20225}, {22323}, {}, {}};
        for (int talker = 0; talker < 6; talker++) {
            e.is("length of " + talker, x.look(talker, 0, NONE), want[talker].length);
            for (int i = 0; i < want[talker].length; i++) {
                e.is("act " + i + " of " + talker, x.look(talker, 0, i), want[talker][i]);
            }
        }
    }

    private static void whoParts() {
        e.terms("Two HISTORIES PART by the first choice in which they take unlike WAYS: who chooses there PARTS them.");
        OnePlan x = Due.planned("A(B(-|-)|C(-|-)),D(-|-)");
        // HISTORIES by WAYS: 000 001 010 011 100 101 110 111
        for (int a = 0; a < 8; a++) {
            for (int b = 0; b < 8; b++) {
                if (a != b) {
                    int want = a / 4 != b / 4 ? 0 : a / 2 == b / 2 ? 3 : a < 4 ? 1 : 2;
                    e.is("parts(" + a + ", " + b + ")", x.parts(a, b), want);
                }
            }
        }
        x = Due.planned("2(A(-|B(-|-)))");
        // HISTORIES by WAYS: 0,0 0,10 0,11 10,0 10,10 10,11 11,0 11,10 11,11
        e.is("in the second round", x.parts(0, 2), 0);
        e.is("in the second round", x.parts(1, 2), 1);
        e.is("in the first round", x.parts(2, 3), 0);
        e.is("in the first round", x.parts(8, 5), 1);
    }

    private static void goOnOtherwise() {
        e.terms("A TALKER CANNOT KNOW, where LOOKS of two HISTORIES are the same up to a place, and there they go on "
            + "otherwise (or one ends)");
        moment("A(A>Bx,B>Cx|A>Bx,B>Cy)", 1, 0, 1, 1); // B says otherwise
        moment("A(A>Bx,B>Ax|A>Bx,A>Bx)", 1, 0, 1, 1); // B says, or gets
        moment("A(A>Bx|-)", 1, 0, 1, 0); // the other one ends
        moment("A(-|A>Bx)", 1, 0, 1, 0); // the first one ends
        moment("A(A>Bx,A>Bx|A>Bx)", 1, 0, 1, 1);
        sound("A(A>Bx|A>Bx)", 1); // both end
        sound("A(A>Cx|A>Cy)", 1); // B sees nothing of both
    }

    private static void unlessItParts() {
        e.terms("unless it PARTS them");
        sound("A(A>Bx|A>By)", 1);
        moment("B(A>Bx|A>By)", 0, 0, 1, 0);
        sound("A(A>Bx,B>Ax|A>By)", 1); // A gets, or ends
        // A PARTS 0 and 1, B PARTS 0 and 2: A knows not of B's
        moment("B(A(A>Bx|A>By)|A>Bz)", 0, 0, 2, 0);
    }

    private static void bothGet() {
        e.terms("or both get something there.");
        sound("A(A>Bx,B>Cx|A>By,A>Cx)", 1); // C gets from unlike ones
        sound("A(A>Bx,A>By|A>Bz)", 1); // unlike at the first place: what comes behind does not matter
        sound("A(A>Bx,B>Cx|A>By,B>Cx)", 1);
        sound("A(A>Bx,B>Ax|A>Bx)", 0); // only one gets
    }

    private static void soundIfNone() {
        e.terms("A PLAN is SOUND, if none ever CANNOT KNOW.");
        sound("-", 1); // one HISTORY alone
        sound("A>Bx,B>Cx,C>Ax", 1);
        sound(THIRTY, 1);
        sound("F(F>Ex|-)", 0);
        sound("A(-|-|-|A>Bx)", 0); // by the last HISTORY alone
        sound("A(-|-|-),A(-|-),A(-|A(-|-|-|A>Bx))", 0); // so of 30
    }

    private static void leastTalker() {
        e.terms("MOMENT: the least TALKER that CANNOT KNOW");
        moment("F(F>Ax,F>Bx|-)", 0, 0, 1, 0);
        moment("A(A>Fx,A>Ex|-)", 4, 0, 1, 0);
        moment("A(A>Fx|-)", 5, 0, 1, 0);
        // B with 1 and 2 is ahead of C with 0 and 1
        moment("A(A>Bx,A>Cx|A>By|A>By,A>Bz,A>Cx)", 1, 1, 2, 1);
    }

    private static void leastHistories() {
        e.terms("the least HISTORY with which it cannot, then the least other one");
        moment("A(A>Bx|A>By|A>Bx|A>By,A>By)", 1, 1, 3, 1);
        moment("A(A>Bx|A>By|A>Bx,A>Bx|A>Bx,A>By)", 1, 0, 2, 1);
        moment("A(A>Bx|A>By|A>By,A>By|A>Bx,A>Bx)", 1, 0, 3, 1);
        moment("A(-|-|-),A(-|-),A(-|A(-|-|-|A>Bx))", 1, 0, 4, 0);
        moment("A(-|-|A(-|-|A(A>Bx|A>By)))", 1, 0, 4, 0);
        moment("A(A>Bx|A>By|A(A>Bz|A>Bw|A(A>Bq|A>Bq,A>Bq)))", 1, 4, 5, 1);
    }

    private static void placeInItsLook() {
        e.terms("the place in its LOOK.");
        moment("A>Cx,A>Cx,A(A>Bx|-)", 1, 0, 1, 0); // what others do does not count
        moment("4(4(A>Bx)),4(A>Bx),3(A>Bx),A(A>Bx|-)", 1, 0, 1, 23);
        moment("4(3(A>Bx,B>Ax)),A(-|-)", NONE, NONE, NONE, NONE);
        // acts beyond the end of a LOOK are none, though there were some
        OnePlan x = Due.planned("A(A>Bx,A>Bx|A>Bx,A>Bx)");
        e.is("SOUND", x.moment(3), NONE);
        Due.retype(x, 0, "A(A>Bx|A>Bx,A>Bx)");
        e.is("the end of the shorter one", x.moment(3), 1);
    }

    private static void fewestTellings() {
        e.terms("MENDED: the fewest TELLINGS (of the first five choices and USED TALKERS but who chooses;");
        mended("-", 0);
        mended("A(A>Bx|A>By)", 0);
        mended("A(A>Bx|-)", 2);
        mended("F(F>Ax|-)", 1);
        mended("A(A>Fx|-)", 32);
        mended("A(A>Bx,A>Cx,A>Dx,A>Ex,A>Fx|-)", 62);
        mended("A(A>Bx|-),A(A>Bx|-)", 2 << 6);
        mended("A(-|A(A>Bx|-))", 2 | 2 << 6);
        mended("A(A>Bx|A>By),A(A>Bx|-)", 2 << 6);
        // one of the third choice, though two of the others are less as bits
        OnePlan x = Due.planned("A(-|A(A>Bx|-)),A(-|-)");
        x.tell(2 | 2 << 6);
        e.is("two mend", x.sound(), 1);
        e.is("one mends", x.mended(), 2 << 12);
    }

    /** As many as choices times USED TALKERS but one: 6, and then 8. */
    private static void sixTellingsAtMost() {
        e.terms("6 such at most: FULL)");
        mended("A(A>Bx|-),A(A>Cx|-),A(-|-)", 2 | 4 << 6);
        mended("A(A>Bx|-),A(A>Cx|-,A>Dx)", mendedByAll("A(A>Bx|-),A(A>Cx|-,A>Dx)"));
        mended("A(A>Bx|-),A(A>Cx|-,A>Dx),A>Ex", FULL); // two choices and five TALKERS
        mended("A(A>Bx|-),A(A>Cx|-),A(-|-),A(-|-)", FULL); // four choices and three TALKERS
        mended("A(-|-),A(-|-),A>Bx,A>Cx,A>Dx,A>Ex", FULL); // though it is SOUND
        mended("A(-|-),A(-|-),A>Bx,A>Cx,A>Dx", 0);
        mended("A(-|-),A>Bx,A>Cx,A>Dx,A>Ex,A>Fx", 0);
    }

    private static void firstFiveChoices() {
        e.terms("(of the first five choices and USED TALKERS but who chooses;");
        // seven choices and two TALKERS: five TELLINGS
        mended("A(A(A(A(-|-)|-)|-)|A(A(A(-|-)|-)|-)),A>Bx", 0);
        mended("A(A(A(A(-|-)|-)|-)|A(A(A(-|-)|-)|-)),A(A>Bx|-)", NONE); // the eighth can't be told of
        mended("A(A(A(A(-|-)|-)|-)|-),A(A>Bx|-)", 2 << 24); // the fifth
    }

    private static void notTooMuch() {
        e.terms("with which alone the PLAN is SOUND (and not TOO MUCH)");
        String words22 = "4(4(A>Bx)),4(A>Bx),2(A>Bx)";
        mended(words22 + ",A(A>Bx|-)", 2); // 24 words with a telling
        mended(words22 + ",A>Bx,A(A>Bx|-)", NONE); // 25 words with it
        mended(words22 + ",A(A>Bx|A>By),A(-|-)", 0); // 23 words, and none is needed
        OnePlan x = Due.planned("A(A>Bx|-)");
        x.tell(62);
        e.is("alone: what is set does not help", x.mended(), 2);
    }

    private static void leastAsBits() {
        e.terms("of like ones the least as bits;");
        eitherMends("B(B(-|-)|B>Ay),A>Bx", 1, 1 << 6);
        eitherMends("A(A(-|A>By,A>Bx)|A>Cy),A>Bx", 4, 4 << 6);
        eitherMends("C(B>Ay|-),B(-|-)", 3, 2 | 1 << 6);
        eitherMends("B(-|B>Ax),B(-|C>Bx)", 1 | 4 << 6, 1 << 6 | 4 << 6);
    }

    private static void eitherMends(String text, int less, int more) {
        OnePlan x = Due.planned(text);
        e.is("as few of " + text, Integer.bitCount(less), Integer.bitCount(more));
        for (int bits : new int[] {less, more}) {
            x.tell(bits);
            e.is(bits + " mends " + text, x.sound(), 1);
        }
        e.is("the least of " + text, x.mended(), less);
        e.is("by all sets, of " + text, mendedByAll(text), less);
    }

    private static void notEvenWithAll() {
        e.terms("NONE: not even with all.");
        mended("4(3(A>Bx,A>Bx)),A(-|-),A(-|-)", 0);
        mended("4(4(A>Bx)),4(A>Bx),3(A>Bx),A(A>Bx|-)", NONE);
        // with all of them TOO MUCH, but not with one
        mended("4(4(A>Bx)),3(A>Bx),A>Cx,2(A>Bx),A(A>Bx|-)", 2);
    }

    /** Every set of TELLINGS of USED TALKERS of one or two choices, by the calls themselves. */
    private static int mendedByAll(String text) {
        OnePlan x = Due.planned(text);
        int choices = x.plan(0);
        int used = x.plan(1);
        int mask = used | (choices > 1 ? used << 6 : 0);
        int best = NONE;
        for (int bits = 0; bits <= mask; bits++) {
            if ((bits & ~mask) == 0) {
                x.tell(bits);
                if (x.sound() == 1 && (best == NONE || Integer.bitCount(bits) < Integer.bitCount(best))) {
                    best = bits;
                }
            }
        }
        return best;
    }

    // ---- promises

    private static void look() {
        e.promise(9, "LOOK of a TALKER at a HISTORY: how many acts (i = NONE), act i: 10000 where it says, 20000 where "
            + "it gets something, and the CODE; NONE beyond. BAD; NOT; FULL.");
        int[] ofB = {20126, 20123, 11024, NONE};
        e.answers(FINE, "look(1, 0, NONE)", 3);
        for (int i = 0; i < ofB.length; i++) {
            e.answers(FINE, "look(1, 0, " + i + ")", ofB[i]);
        }
        e.answers(FINE, "look(1, 0, MOST)", NONE);
        e.answers(FINE, "look(5, 0, NONE)", 0);
        e.answers(FINE, "look(5, 0, 0)", NONE);
        e.answers(FINE, "look(2, 2, 0)", 21223);
        e.refused(FINE, "look(1, 0, -2)", BAD);
        e.refused(FINE, "look(1, 0, LEAST)", BAD);
        e.range(FINE, "look(#, 0, NONE)", 0, 5);
        e.range(FINE, "look(1, #, 0)", 0, Edges.FINE_HISTORIES - 1);
        e.refused(FINE, "look(1, 29, 0)", BAD);
        for (Edges.State state : new Edges.State[] {NEW, FAULTY, TOO_MUCH}) {
            int want = state == TOO_MUCH ? FULL : NOT;
            e.refused(state, "look(0, 0, 0)", want);
            e.refused(state, "look(5, 29, NONE)", want);
            e.range(state, "look(#, 0, 0)", 0, 5);
            e.range(state, "look(0, #, 0)", 0, 29);
            e.refused(state, "look(0, 0, -2)", BAD);
        }
        OnePlan x = Due.planned("4(3(A>Bx,B>Ay))");
        e.is("24 acts", x.look(1, 0, NONE), 24);
        e.is("the last of 24", x.look(1, 0, 23), 11024);
        e.is("beyond 24", x.look(1, 0, 24), NONE);
        x = Due.planned("A(4(3(A>Bx,B>Ay))|A>Bz)");
        e.is("beyond 24, though there is another HISTORY", x.look(1, 0, 24), NONE);
        e.is("the last HISTORY of 30", Due.planned(THIRTY).look(0, 29, NONE), 0);
    }

    private static void looks() {
        e.promise(10, "In how many unlike LOOKS all HISTORIES fall for a TALKER. BAD; NOT; FULL.");
        for (Edges.State state : Edges.State.values()) {
            e.range(state, "looks(#)", 0, 5);
        }
        e.refused(NEW, "looks(0)", NOT);
        e.refused(FAULTY, "looks(5)", NOT);
        e.refused(TOO_MUCH, "looks(5)", FULL);
        int[] want = {3, 4, 2, 1, 1, 1};
        for (int talker = 0; talker < 6; talker++) {
            e.answers(FINE, "looks(" + talker + ")", want[talker]);
            e.is("of one HISTORY", Due.planned("A>Bx").looks(talker), 1);
            e.is("of 30 that nobody sees", Due.planned(THIRTY).looks(talker), 1);
        }
        String thirty = "A(A>Ba|A>Bb|A>Bc),A(A>Ba|A>Bb),A(A>Ba|A(A>Bb|A>Bc|A>Bd|A>Be))";
        e.is("30 unlike ones", Due.planned(thirty).looks(1), 30);
        e.is("one begins as the other", Due.planned("A(A>Bx|A>Bx,A>Bx|-)").looks(1), 3);
    }

    private static void parts() {
        e.promise(11, "Who PARTS two unlike HISTORIES. BAD; NOT; FULL.");
        e.range(FINE, "parts(#, 3)", 0, 2);
        e.range(FINE, "parts(0, #)", 1, 3);
        e.refused(FINE, "parts(3, 3)", BAD);
        e.refused(FINE, "parts(3, 4)", BAD);
        e.refused(FINE, "parts(4, 3)", BAD);
        e.refused(FINE, "parts(29, 28)", BAD);
        e.answers(FINE, "parts(0, 1)", 0);
        e.answers(FINE, "parts(3, 2)", 1);
        for (Edges.State state : new Edges.State[] {NEW, FAULTY, TOO_MUCH}) {
            int want = state == TOO_MUCH ? FULL : NOT;
            e.refused(state, "parts(0, 29)", want);
            e.refused(state, "parts(29, 0)", want);
            e.refused(state, "parts(0, 30)", BAD);
            e.refused(state, "parts(30, 0)", BAD);
            e.refused(state, "parts(-1, 0)", BAD);
            e.refused(state, "parts(0, -1)", BAD);
            e.refused(state, "parts(7, 7)", BAD);
        }
        e.is("the first and the last of 30", Due.planned(THIRTY).parts(0, 29), 0);
        e.is("the last two of 30", Due.planned("A(-|-|-),A(-|-),A(-|B(-|-|-|-))").parts(28, 29), 1);
    }

    private static void sound() {
        e.promise(12, "Whether the PLAN is SOUND: 1, 0. NOT; FULL.");
        e.refused(NEW, "sound()", NOT);
        e.refused(FAULTY, "sound()", NOT);
        e.refused(TOO_MUCH, "sound()", FULL);
        e.answers(FINE, "sound()", 0);
        OnePlan x = FINE.made();
        x.tell(2 | 4 | 4 << 6);
        e.is("with tellings", x.sound(), 1);
        x.tell(0);
        e.is("without", x.sound(), 0);
    }

    private static void moment() {
        e.promise(13, "MOMENT: 0 the TALKER, 1, 2 both HISTORIES, 3 the place. NONE: it is SOUND. BAD; NOT; FULL.");
        int[] want = {2, 0, 2, 0};
        for (int what = 0; what < 4; what++) {
            e.answers(FINE, "moment(" + what + ")", want[what]);
            e.refused(NEW, "moment(" + what + ")", NOT);
            e.refused(FAULTY, "moment(" + what + ")", NOT);
            e.refused(TOO_MUCH, "moment(" + what + ")", FULL);
            e.is("SOUND", Due.planned("-").moment(what), NONE);
        }
        for (Edges.State state : Edges.State.values()) {
            e.range(state, "moment(#)", 0, 3);
        }
        OnePlan x = FINE.made();
        x.moment(0);
        x.tell(2 | 4 | 4 << 6);
        e.is("SOUND with tellings", x.moment(3), NONE);
    }

    private static void mended() {
        e.promise(14, "MENDED, as bits; NONE. NOT;");
        e.refused(NEW, "mended()", NOT);
        e.refused(FAULTY, "mended()", NOT);
        e.answers(FINE, "mended()", mendedByAll(Edges.FINE_PLAN));
        mended("4(4(A>Bx)),4(A>Bx),3(A>Bx),A(A>Bx|-)", NONE);
        e.promise(14, "FULL: also TOO MUCH without any TELLINGS (whatever is set does not matter).");
        e.refused(TOO_MUCH, "mended()", FULL);
        mended("4(3(A>Bx,A>Bx)),A(-|-)", 0);
        mended("4(3(A>Bx,A>Bx)),A>Bx,A(-|-)", FULL);
        mended(THIRTY, 0);
        mended("A(" + THIRTY + "|-)", FULL);
        mended("4(3(A>Bx,A>Bx)),B(-|-)", 0);
        mended("4(3(A>Bx,A>Bx)),A>Bx,B(-|-)", FULL);
        OnePlan x = Due.planned("4(3(A>Bx,A>Bx)),A(-|-)");
        x.tell(2);
        e.is("TOO MUCH with what is set", x.histories(), FULL);
        e.is("which does not matter", x.mended(), 0);
        e.is("and stays", x.count(2), 2);
        e.is("TOO MUCH still", x.histories(), FULL);
        for (int bits : new int[] {0, 1, 2, 63, 1 << 29, (1 << 30) - 1}) {
            x = FINE.made();
            x.tell(bits);
            OnePlan twin = FINE.made();
            twin.tell(bits);
            e.is("with " + bits, x.mended(), FINE.made().mended());
            e.alike("mended with " + bits, x, twin);
        }
    }
}
