import java.io.IOException;

/** Boundary cases of the promises 20 and 21, and of the terms about PROGRAMS. */
public final class ProgramsEdgesTest {
    private static final int NONE = -1, BAD = -2, NOT = -3, FULL = -4;
    private static final Edges.State NEW = Edges.State.NEW, FINE = Edges.State.FINE, FAULTY = Edges.State.FAULTY,
        TOO_MUCH = Edges.State.TOO_MUCH;
    private static final String TALKERS = "ABCDEF";
    private static final String WORDS = "abcdefghijklmnopqrstuvwxyz";
    private static Edges e;

    public static void main(String[] args) throws IOException {
        e = new Edges();
        programOf80Bytes();
        eightRows();
        firstByteThatCannotGoOn();
        namedFaults();
        emptyText();
        beginsBoth();
        allThatItCanGet();
        eachWordThatItCanSay();
        mustSaySomething();
        whatItCanDoNext();
        shortestRow();
        fits();
        breach();
        e.end("ProgramsEdgesTest", 20, 21);
    }

    private static void fault(String text, int want) {
        OnePlan x = new OnePlan();
        Due.type(x, 1, text);
        e.is("fault of " + text, x.fault(1), want);
    }

    private static void breach(String plan, int talker, String program, int want) {
        OnePlan x = Due.planned(plan);
        Due.type(x, 1, program);
        e.is("breach of " + program + " by " + talker + " of " + plan, x.breach(talker), want);
        e.is("fits of " + program + " by " + talker + " of " + plan, x.fits(talker), want == NONE ? 1 : 0);
    }

    // ---- terms

    private static void programOf80Bytes() {
        e.terms("A PROGRAM of a TALKER is a text of up to 80 bytes");
        OnePlan x = Due.planned("4(3(A>Bx,A>Bx))");
        String acts = "!Bx".repeat(24);
        Due.type(x, 1, acts + "?Bx?Bx||");
        e.is("bytes", x.count(1), 80);
        e.is("no FAULT", x.fault(1), NONE);
        e.is("the 81st byte", x.type(1, '|'), FULL);
        e.is("no FAULT still", x.fault(1), NONE);
        e.is("it fits", x.fits(0), 1);
        Due.retype(x, 1, acts + "?Bx!Bx||");
        e.is("all of it is read", x.breach(0), NONE);
        Due.retype(x, 1, acts + "!Bx?Bx||");
        e.is("all of it is read", x.breach(0), 24);
        fault("?Bx".repeat(26) + "|!", 80);
        fault("?Bx".repeat(26) + "?B", 80);
        fault("?Bx".repeat(26) + "?", 79);
        fault("?Bx".repeat(26) + "|x", 79);
    }

    private static void eightRows() {
        e.terms("At most 8 ROWS.");
        fault("|||||||", NONE);
        fault("||||||||", 7);
        fault("!Ax|!Ax|!Ax|!Ax|!Ax|!Ax|!Ax|!Ax", NONE);
        fault("!Ax|!Ax|!Ax|!Ax|!Ax|!Ax|!Ax|!Ax|!Ax", 31);
        // each of eight ROWS is held beside LOOKS
        String plan = "B(B>Aa|B>Ab|B>Ac|B(B>Ad|B>Ae|B>Af|B(B>Ag|B>Ah)))";
        String[] rows = {"?Ba", "?Bb", "?Bc", "?Bd", "?Be", "?Bf", "?Bg", "?Bh"};
        breach(plan, 0, String.join("|", rows), NONE);
        for (int row = 0; row < 8; row++) {
            String[] other = rows.clone();
            other[row] = "?Bz";
            breach(plan, 0, String.join("|", other), 0);
            other[row] = rows[row] + "!Bz";
            breach(plan, 0, String.join("|", other), 1);
        }
    }

    /** Behind this text each byte of these goes on, or makes it whole; with any other one it cannot go on. */
    private static void next(String text, String goesOn, String makesWhole) {
        for (int b = 0; b <= 255; b++) {
            int want = text.length();
            if (makesWhole.indexOf(b) >= 0) {
                want = NONE;
            } else if (goesOn.indexOf(b) >= 0) {
                want = text.length() + 1;
            }
            OnePlan x = new OnePlan();
            Due.type(x, 1, text);
            x.type(1, b);
            e.is("byte " + b + " behind " + text, x.fault(1), want);
        }
    }

    private static void firstByteThatCannotGoOn() {
        e.terms("ROWS with | between them, each of acts without anything between: !Bw says w to B, ?Bw gets w from B; "
            + "perhaps none.");
        next("", "!?", "|");
        next("!", TALKERS, "");
        next("?", TALKERS, "");
        next("!A", "", WORDS);
        next("?F", "", WORDS);
        next("!Ax", "!?", "|");
        next("?Fz", "!?", "|");
        next("|", "!?", "|");
        next("!Ax|", "!?", "|");
        next("||||||", "!?", "|");
        next("|||||||", "!?", "");
        next("!Ax|||||||?Bx", "!?", "");
    }

    private static void namedFaults() {
        e.terms("The FAULT as ever (of TALKER letters A to F;");
        fault("!@x", 1);
        fault("!Ax", NONE);
        fault("!Fx", NONE);
        fault("!Gx", 1);
        fault("?@x", 1);
        fault("?Ax", NONE);
        fault("?Fx", NONE);
        fault("?Gx", 1);
        e.terms("the ninth ROW: the | ahead of it;");
        fault("!Ax||||||||", 10);
        fault("||||!Ax||||?Bx", 10);
    }

    private static void emptyText() {
        e.terms("an empty text has none: it is one ROW without acts)");
        fault("", NONE);
        breach("-", 0, "", NONE);
        breach("A>Bx", 0, "", 0);
        breach("A>Bx", 1, "", 0);
        breach("A>Bx", 2, "", NONE);
        breach("A>Bx", 0, "|", 0);
        breach("A>Bx", 0, "|!Bx", NONE);
        breach("A>Bx", 0, "!Bx|", NONE);
    }

    private static void beginsBoth() {
        e.terms("It FITS a TALKER of the PLAN, if, after each row of acts that begins both a ROW of it and a LOOK:");
        breach("A>Bx", 0, "!Bx|?Bq!Bz", NONE); // no LOOK begins so
        breach("A(A>Bx|A>By,B>Ax)", 0, "!Bx", NONE); // no ROW begins so
        breach("A>Bx", 0, "!Bx!By", 1); // all of a LOOK begins it
        breach("A>Bx,A>By", 0, "!Bx", 1); // all of a ROW begins it
        breach("A>Bx", 0, "!Cx", 0); // nothing begins all
        breach("A>Bx,B>Ay", 0, "!Bx?By!Bz", 2);
        breach("A>Bx,B>Ay", 0, "?Bq|!Bx|?By", 1); // acts of the next ROW are none of this one
        breach("A>Bx,B>Ay", 0, "?Bq|?By|!Bx", 1);
        for (char from = 'A'; from <= 'F'; from++) {
            for (char to = 'A'; to <= 'F'; to++) {
                if (from != to) {
                    ofTwo(from, to);
                }
            }
        }
    }

    private static void ofTwo(char from, char to) {
        String plan = from + ">" + to + "a," + from + ">" + to + "z";
        breach(plan, from - 'A', "!" + to + "a!" + to + "z", NONE);
        breach(plan, from - 'A', "!" + to + "a!" + to + "y", 1);
        breach(plan, to - 'A', "?" + from + "a?" + from + "z", NONE);
        breach(plan, to - 'A', "?" + from + "b?" + from + "z", 0);
    }

    private static void allThatItCanGet() {
        e.terms("all that it can get next by LOOKS it can get next by ROWS, too;");
        breach("A(A>Bx|A>By)", 1, "?Ax|?Ay", NONE);
        breach("A(A>Bx|A>By)", 1, "?Ax", 0);
        breach("A(A>Bx|A>By)", 1, "?Ax|?Ay|?Az", NONE);
        breach("A(A>Bx|-)", 1, "", 0); // though a LOOK ends there
        breach("A(A>Bx|-)", 1, "?Ax", NONE);
        breach("A>Bx", 1, "?Cx", 0); // from another one
        breach("A>Bx", 1, "!Ax", 0);
        breach("A>Bx,A>By", 1, "?Ax|?Ay", 1); // in unlike ROWS
        breach("A>Bx,A>By", 1, "?Ax|?Ax?Ay", NONE);
    }

    private static void eachWordThatItCanSay() {
        e.terms("each word that it can say next by ROWS it can say next by LOOKS;");
        breach("A(A>Bx|A>By)", 0, "!Bx", NONE);
        breach("A(A>Bx|A>By)", 0, "!Bx|!By", NONE);
        breach("A(A>Bx|A>By)", 0, "!Bx|!By|!Bz", 0);
        breach("A(A>Bx|A>By)", 0, "!Bx|!Cx", 0);
        breach("-", 0, "!Bx", 0);
        breach("-", 0, "?Bx", NONE);
        breach("A>Bx", 0, "!Bx!Bx", 1);
        breach("A>Bx", 0, "!Bx?Bx", NONE);
        breach("A>Bx", 1, "?Ax|!Ax", 0);
    }

    private static void mustSaySomething() {
        e.terms("and if there LOOKS can say something, and get nothing, and do not end, ROWS can say something.");
        breach("A>Bx", 0, "", 0);
        breach("A>Bx", 0, "?Bx", 0); // it only gets
        breach("A(A>Bx|A>By)", 0, "!By", NONE); // one of both is enough
        breach("A(A>Bx|-)", 0, "", NONE); // LOOKS can end
        breach("A(A>Bx|B>Ax)", 0, "?Bx", NONE); // LOOKS can get
        breach("A(A>Bx|B>Ax|-)", 0, "?Bx", NONE);
        breach("A(A>Bx|B>Ax)", 0, "", 0); // but then it must get
        breach("B>Ax,A>Bx", 0, "?Bx", 1);
        breach("B>Ax,A>Bx", 0, "?Bx|?Bx!Bx", NONE);
    }

    private static void whatItCanDoNext() {
        e.terms("(What it can do next: acts that stand there in ROWS, LOOKS that begin so.)");
        breach("A(A>Bx,B>Ax|A>Bx,B>Ay)", 0, "!Bx?Bx|!Bx?By", NONE);
        breach("A(A>Bx,B>Ax|A>Bx,B>Ay)", 0, "!Bx?Bx", 1);
        breach("A(A>Bx,B>Ax|A>Bz,B>Ay)", 0, "!Bx?Bx|!Bz?Bx", 1); // in a ROW that begins otherwise
        breach("A(A>Bx,B>Ax|A>Bz,B>Ay)", 0, "!Bx?Bx|!Bz?By", NONE);
        breach("A(A>Bx,B>Ax|A>Bz,B>Ay)", 0, "!Bx?Bx|?Bz?By", NONE);
        breach("A(A>Bx,A>Bx|A>Bz,A>By)", 0, "!Bx!By", 1); // in a LOOK that begins otherwise
    }

    private static void shortestRow() {
        e.terms("BREACH: the length of the shortest row of acts after which that is not so.");
        breach("A(A>Bx,A>Bx,A>Bx|A>By,A>By)", 0, "!Bx!Bx|!By", 1); // the second ROW's is shorter
        breach("A(A>Bx,A>Bx,A>Bx|A>By,A>By)", 0, "!By|!Bx!Bx", 1);
        breach("A(A>Bx,A>Bx,A>Bx|A>By,A>By)", 0, "!Bx!Bx|!By!By", 2);
        for (int length : new int[] {0, 1, 23}) {
            breach("4(3(A>Bx,A>Bx))", 0, "!Bx".repeat(length), length);
        }
        breach("4(3(A>Bx,A>Bx))", 0, "!Bx".repeat(24), NONE);
        breach("4(3(A>Bx,A>Bx))", 0, "!Bx".repeat(25), 24);
        breach("4(3(A>Bx,A>Bx))", 0, "!Bx".repeat(24) + "?Bx!Bx", NONE);
        breach("4(3(A>Bx,A>Bx))", 1, "?Ax".repeat(23), 23);
        breach("4(3(A>Bx,A>Bx))", 1, "?Ax".repeat(26), NONE);
    }

    // ---- promises

    private static void fits() {
        e.promise(20, "Whether the PROGRAM FITS a TALKER: 1, 0. BAD; NOT: a FAULT of either; FULL.");
        refusals("fits");
        e.answers(FINE, "fits(3)", 0); // D could say, and may not
        e.answers(FINE, "fits(0)", 0);
        OnePlan x = FINE.made();
        x.wipe(1);
        e.is("D does nothing", x.fits(3), 1);
        e.is("F does nothing", x.fits(5), 1);
        e.is("A must tell", x.fits(0), 0);
    }

    private static void breach() {
        e.promise(21, "BREACH; NONE: it FITS. BAD; NOT; FULL.");
        refusals("breach");
        e.answers(FINE, "breach(3)", 0);
        OnePlan x = FINE.made();
        x.wipe(1);
        e.is("it fits", x.breach(5), NONE);
        e.is("it does not", x.breach(0), 0);
    }

    private static void refusals(String call) {
        for (Edges.State state : Edges.State.values()) {
            e.range(state, call + "(#)", 0, 5);
        }
        for (int talker = 0; talker < 6; talker += 5) {
            String each = call + "(" + talker + ")";
            e.refused(NEW, each, NOT);
            e.refused(FAULTY, each, NOT);
            e.refused(TOO_MUCH, each, FULL);
            for (Edges.State state : Edges.State.values()) {
                OnePlan x = state.made();
                x.type(1, '-');
                e.is(state + ", a FAULT of the PROGRAM: " + each, Edges.on(x, each), NOT);
            }
        }
        OnePlan x = TOO_MUCH.made();
        x.type(1, '-');
        e.is("BAD is ahead of NOT", Edges.on(x, call + "(6)"), BAD);
        e.is("BAD is ahead of NOT", Edges.on(x, call + "(-1)"), BAD);
    }
}
