import java.io.IOException;

/** The sentences about refusals: the order in which they are told, and that they change nothing. */
public final class RefusalsEdgesTest {
    private static final int BAD = -2, NOT = -3, FULL = -4;
    private static final int NULL = -11, INDEX = -12, CAST = -13, STORE = -14, SIZE = -15;
    private static final int LEAST = Integer.MIN_VALUE;
    private static final Edges.State NEW = Edges.State.NEW, FINE = Edges.State.FINE, FAULTY = Edges.State.FAULTY,
        TOO_MUCH = Edges.State.TOO_MUCH;
    private static Edges e;

    public static void main(String[] args) throws IOException {
        e = new Edges();
        badFirst();
        nullAheadOfThePlan();
        notAheadOfFull();
        otherFindingsLast();
        historyThatThereIsNot();
        changeNothing();
        nothingIsKept();
        e.end("RefusalsEdgesTest", 1, 0);
    }

    private static void badFirst() {
        e.terms("Refusals, the first that fits, in the order told at each act: BAD -2 (a number not as told, no such "
            + "thing)");
        String[] calls = {"type(2, 65)", "type(0, 256)", "wipe(2)", "fault(2)", "plan(3)", "tell(-1)", "said(30, 0)",
            "said(-1, 0)", "said(0, -2)", "look(6, 0, 0)", "look(0, 30, 0)", "look(0, 0, -2)", "looks(6)",
            "parts(30, 0)", "parts(0, 30)", "parts(0, 0)", "parts(29, 29)", "moment(4)", "run(30, 0, 0)",
            "run(0, 0, 2)", "step(30, 0, 0)", "step(0, 0, -1)", "longest(30, 0, 1)", "longest(0, 6, 1)",
            "longest(0, 0, 6)", "longest(0, 3, 3)", "trips(30, 0)", "trips(0, 2)", "lost(30, 0, 0, 0)",
            "lost(0, 6, 0, 0)", "lost(0, 0, -1, 0)", "lost(0, 0, 0, 2)", "fits(6)", "breach(-1)", "log(4)", "left(-1)",
            "left(41)", "out(2)", "sheet(4, 0, -1)", "sheet(0, 3, -1)", "sheet(3, 0, 61)", "lose(4)",
            "put(4, 0, -1, 0)", "put(3, 3, -1, 0)", "copy(4, -1, 3, 0, 0)", "copy(3, -1, 4, 0, 0)", "write(4, 0)",
            "write(3, 30)", "count(6)", "count(7)", "count(9)"};
        for (Edges.State state : Edges.State.values()) {
            for (String call : calls) {
                e.refused(state, call, BAD);
            }
            e.refused(state, "get(4, 0, -1)", LEAST);
            e.refused(state, "get(3, 3, -1)", LEAST);
        }
    }

    private static void nullAheadOfThePlan() {
        e.terms("NULL, NOT -3 (with a FAULT of the PLAN)");
        for (Edges.State state : Edges.State.values()) {
            e.found(state, "write(3, 0)", NULL);
            e.found(state, "write(3, 29)", NULL);
            e.found(state, "log(3)", NULL);
        }
    }

    private static void notAheadOfFull() {
        e.terms("NOT -3 (with a FAULT of the PLAN), FULL -4 (the PLAN is TOO MUCH)");
        String[] calls = {"histories()", "said(0, 0)", "look(0, 0, 0)", "looks(0)", "parts(0, 1)", "sound()",
            "moment(0)", "mended()", "run(0, 0, 0)", "step(0, 0, 0)", "longest(0, 0, 1)", "trips(0, 0)",
            "lost(0, 0, 0, 0)", "fits(0)", "breach(0)", "left(0)", "out(0)", "write(0, 0)", "count(4)", "count(5)"};
        for (String call : calls) {
            e.refused(FAULTY, call, NOT);
            e.refused(TOO_MUCH, call, FULL);
            OnePlan both = TOO_MUCH.made();
            both.type(0, '(');
            e.is("a FAULT behind what is TOO MUCH, " + call, Edges.on(both, call), NOT);
            long answer = Edges.on(FINE.made(), call);
            e.is("neither, " + call, answer == NOT || answer == FULL || answer == BAD ? 1 : 0, 0);
        }
        for (String call : new String[] {"plan(0)", "plan(1)", "plan(2)", "ask()"}) {
            e.refused(FAULTY, call, NOT);
        }
    }

    private static void otherFindingsLast() {
        e.terms("FULL -4 (the PLAN is TOO MUCH), other FINDINGS.");
        for (Edges.State state : new Edges.State[] {FINE, FAULTY, TOO_MUCH}) {
            // SHEETS 0, 1 and 2 are of unlike FORMS, 3 is LOST
            e.found(state, "put(3, 1, -1, 0)", NULL);
            e.found(state, "put(0, 1, -1, 0)", CAST);
            e.found(state, "put(0, 0, -1, 0)", INDEX);
            e.found(state, "get(3, 1, -1)", LEAST, 1);
            e.found(state, "get(0, 1, -1)", LEAST, 3);
            e.found(state, "get(0, 0, -1)", LEAST, 2);
            e.found(state, "copy(3, -1, 0, -1, -1)", NULL);
            e.found(state, "copy(0, -1, 3, -1, -1)", NULL);
            e.found(state, "copy(0, -1, 1, -1, -1)", STORE);
            e.found(state, "copy(0, -1, 0, -1, -1)", INDEX);
            e.found(state, "sheet(0, 0, -1)", SIZE);
        }
    }

    private static void historyThatThereIsNot() {
        e.terms("(A HISTORY that is not 0 to 29 is BAD at once; one of these that there is not, behind NOT and FULL.)");
        String[] calls = {"said(#, 0)", "look(0, #, 0)", "parts(0, #)", "parts(#, 0)", "run(#, 0, 0)", "step(#, 0, 0)",
            "longest(#, 0, 1)", "trips(#, 0)", "lost(#, 0, 0, 0)", "write(0, #)"};
        for (String call : calls) {
            for (String number : "-1 30 LEAST MOST".split(" ")) {
                for (Edges.State state : new Edges.State[] {FINE, FAULTY, TOO_MUCH}) {
                    e.refused(state, call.replace("#", number), BAD);
                }
            }
            for (String number : "4 29".split(" ")) {
                e.refused(FINE, call.replace("#", number), BAD);
                e.refused(FAULTY, call.replace("#", number), NOT);
                e.refused(TOO_MUCH, call.replace("#", number), FULL);
            }
            long answer = Edges.on(FINE.made(), call.replace("#", "3"));
            e.is("the last that there is, " + call, answer == BAD ? 1 : 0, 0);
        }
    }

    /** What only tells something changes nothing either. */
    private static void changeNothing() {
        e.terms("They change nothing (FINDINGS but count() 8).");
        String[] calls = {"fault(0)", "fault(1)", "plan(0)", "histories()", "said(0, 0)", "look(0, 0, 0)", "looks(0)",
            "parts(0, 1)", "sound()", "moment(0)", "mended()", "run(0, 9, 0)", "step(0, 9, 1)", "longest(0, 0, 1)",
            "trips(0, 0)", "lost(0, 0, 0, 0)", "fits(0)", "breach(0)", "left(0)", "out(0)", "ask()", "count(4)",
            "count(8)", "digest()"};
        for (Edges.State state : Edges.State.values()) {
            for (String call : calls) {
                e.refused(state, call, Edges.on(state.made(), call));
            }
        }
        e.refused(NEW, "clear()", 0);
        e.refused(NEW, "wipe(0)", 0);
        e.refused(NEW, "wipe(1)", 0);
        e.refused(NEW, "tell(0)", 0);
    }

    /** Nothing of an older PLAN, PROGRAM or LOG may be in an answer, whatever was asked ahead of a change. */
    private static void nothingIsKept() {
        e.terms("They change nothing (FINDINGS but count() 8).");
        String[] asked = {"histories()", "sound()", "moment(0)", "mended()", "breach(0)", "ask()", "digest()",
            "run(0, 9, 1)", "looks(1)"};
        for (String ahead : asked) {
            for (String behind : asked) {
                OnePlan x = FINE.made();
                Edges.on(x, ahead);
                e.is(ahead + " beyond, " + behind, x.tell(-1), BAD);
                Edges.on(x, ahead);
                x.tell(0);
                OnePlan fresh = FINE.made();
                fresh.tell(0);
                e.is("TELLINGS go, " + ahead + " " + behind, Edges.on(x, behind), Edges.on(fresh, behind));
                x = TOO_MUCH.made();
                Edges.on(x, ahead);
                Due.retype(x, 0, "A(A>Bx|-)");
                fresh = TOO_MUCH.made();
                Due.retype(fresh, 0, "A(A>Bx|-)");
                e.is("another PLAN, " + ahead + " " + behind, Edges.on(x, behind), Edges.on(fresh, behind));
                Edges.on(x, ahead);
                x.type(0, ',');
                long want = behind.equals("digest()") ? digestWithFault() : NOT;
                e.is("a FAULT, " + ahead + " " + behind, Edges.on(x, behind), want);
            }
        }
    }

    private static long digestWithFault() {
        OnePlan x = TOO_MUCH.made();
        Due.retype(x, 0, "A(A>Bx|-),");
        return x.digest();
    }
}
