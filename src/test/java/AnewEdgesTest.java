import java.io.IOException;
import java.util.ArrayList;
import java.util.List;

/**
 * What is emptied or made anew leaves nothing behind: an object on which everything has been asked with other texts, a
 * LOG and SHEETS answers as a new one does. (Rows that are used again could still hold something beyond their ends.)
 */
public final class AnewEdgesTest {
    private static final int NONE = -1;
    private static final int MOST_CALLS = 512;
    private static Edges e;

    private record Things(String plan, int tellings, String program, int[] log) {
        /** How many calls it took. */
        int on(OnePlan x) {
            x.wipe(0);
            Due.type(x, 0, plan);
            x.tell(tellings);
            x.wipe(1);
            Due.type(x, 1, program);
            x.clear();
            Due.log(x, log);
            return 3 + plan.length() + program.length() + 3 + log.length;
        }
    }

    private static final Things[] ALL = {
        new Things("", 0, "", new int[0]),
        new Things("A", 0, "!", new int[] {123}),
        new Things("A>B", 0, "!B", new int[] {124}),
        new Things("-", 0, "!Bx", new int[] {123, 123}),
        new Things("A>Bx", 0, "!Bx", new int[] {123}),
        new Things("A>Bx,A>Bx", 0, "!Bx!Bx", new int[] {123, 123, 123}),
        new Things("A>Bx,B>Ay", 0, "!Bx|?By", new int[] {1024}),
        new Things("A(A>Bx|A>By)", 0, "!Bx|!By", new int[] {124}),
        new Things("A>Bx", 0, "!Bx!Bx", new int[] {100}),
        new Things("A(A>Bx|A>By,B>Ax)", 0, "!Bx|!By", new int[] {1023}),
        new Things("A(A>Bx|A>By,B>Ax)", 0, "!Bx", new int[] {123, 1023}),
        new Things("A(A>Bx|A>By)", 0, "?Ax|?Ay!Az", new int[] {123}),
        new Things("A>Bx", 0, "?Ax|?Ay!Az", new int[] {124}),
        new Things("A(A>Bx,A>Bx|A>Bx)", 0, "!Bx|!Bx|!Bx!Bx", new int[] {123, 123}),
        new Things("A(A>Bx|A>Bx,A>Bx)", 2, "?Ax", new int[] {127, 123}),
        new Things("A(A>Bx|A>By|B(-|A(-", 2, "?Ax|", new int[] {126}),
        new Things("2(A(A>Bx|-)),B>Ax", 64, "?Bx|!Bx?Bx", new int[] {1023, 123}),
        new Things("A(-|-),B(-|-),C(A>Bx|-|C>Ax)", 0, "|?Cx|!Bx", new int[] {2023}),
        new Things("4(4(4(A>Bx)))", 0, "!Bx|!Bx|!Bx|!Bx", new int[] {123, 124, 125}),
    };

    public static void main(String[] args) throws IOException {
        e = new Edges();
        behindOthers();
        oneCallBehindAnother();
        byteByByte();
        shorterTexts();
        emptyLog();
        newRows();
        e.end("AnewEdgesTest", 3, 3);
    }

    private static List<String> asked() {
        List<String> calls = new ArrayList<>(List.of(("fault(0) fault(1) plan(0) plan(1) plan(2) histories() sound() "
            + "moment(0) moment(1) moment(2) moment(3) mended() left(0) left(1) out(0) out(1) ask() parts(0,1) "
            + "parts(1,2) count(4) count(5) digest()").split(" ")));
        for (int talker = 0; talker < 3; talker++) {
            for (String call : "looks(#) fits(#) breach(#) look(#,0,-1) look(#,1,0) look(#,1,1)".split(" ")) {
                calls.add(call.replace("#", String.valueOf(talker)));
            }
        }
        for (int history = 0; history < 4; history++) {
            for (String call : ("said(#,-1) said(#,0) said(#,1) run(#,9,0) run(#,9,1) step(#,9,1) longest(#,0,1) "
                + "longest(#,1,0) trips(#,0) trips(#,1) lost(#,0,1,0) lost(#,1,0,1)").split(" ")) {
                calls.add(call.replace("#", String.valueOf(history)));
            }
        }
        return calls;
    }

    private static void behindOthers() {
        e.promise(3, "A text is empty (TELLINGS go with the PLAN's): how many bytes it had.");
        List<String> calls = asked();
        for (Things old : ALL) {
            for (Things now : ALL) {
                OnePlan x = new OnePlan();
                int made = old.on(x);
                for (String call : calls) {
                    Edges.on(x, call);
                }
                made += now.on(x) + 2 * calls.size();
                e.is("more than 512 calls", made > MOST_CALLS ? made : 0, 0);
                OnePlan fresh = new OnePlan();
                now.on(fresh);
                for (String call : calls) {
                    e.is(call + " of " + now + " behind " + old, Edges.on(x, call), Edges.on(fresh, call));
                }
            }
        }
    }

    /** The same call, once with other things, and at once with these. */
    private static void oneCallBehindAnother() {
        e.promise(3, "A text is empty");
        for (String call : asked()) {
            for (Things old : ALL) {
                for (Things now : ALL) {
                    OnePlan x = new OnePlan();
                    old.on(x);
                    Edges.on(x, call);
                    now.on(x);
                    OnePlan fresh = new OnePlan();
                    now.on(fresh);
                    e.is(call + " of " + now + " right behind " + old, Edges.on(x, call), Edges.on(fresh, call));
                }
            }
        }
    }

    /** Whatever is asked while a text is typed does not change what it is in the end. */
    private static void byteByByte() {
        e.promise(4, "The FAULT of a text; NONE.");
        String plan = "2(A(A>Bx|B(-|C>Dx))),-";
        String program = "!Bx?By|!Bz";
        OnePlan x = new OnePlan();
        for (int i = 0; i < plan.length(); i++) {
            x.type(0, plan.charAt(i));
            OnePlan fresh = Due.planned(plan.substring(0, i + 1));
            for (String call : "fault(0) plan(0) plan(1) plan(2) histories() sound()".split(" ")) {
                e.is(call + " up to byte " + i, Edges.on(x, call), Edges.on(fresh, call));
            }
        }
        e.is("histories", x.histories(), 9);
        for (int i = 0; i < program.length(); i++) {
            x.type(1, program.charAt(i));
            OnePlan fresh = Due.planned(plan);
            Due.type(fresh, 1, program.substring(0, i + 1));
            for (String call : "fault(1) breach(0) breach(1)".split(" ")) {
                e.is(call + " up to byte " + i, Edges.on(x, call), Edges.on(fresh, call));
            }
        }
    }

    /** Bytes that a text had are none of it. */
    private static void shorterTexts() {
        e.promise(3, "A text is empty");
        String plan = "A>Bx,A(B>Cx|2(-))";
        String program = "!Bx?Cy|!Dz";
        for (int length = 0; length <= plan.length(); length++) {
            OnePlan x = Due.planned(plan);
            x.fault(0);
            x.wipe(0);
            e.is("fault behind wipe", x.fault(0), 0);
            Due.type(x, 0, plan.substring(0, length));
            e.is("fault of the first " + length, x.fault(0), Due.planned(plan.substring(0, length)).fault(0));
            if (length < plan.length() && length != 4) { // A>Bx is whole
                e.is("it ends too early", x.fault(0), length);
            }
        }
        for (int length = 0; length <= program.length(); length++) {
            OnePlan x = new OnePlan();
            Due.type(x, 1, program);
            x.fault(1);
            x.wipe(1);
            e.is("fault behind wipe", x.fault(1), NONE);
            Due.type(x, 1, program.substring(0, length));
            boolean whole = length % 3 == 0 && length < 7 || length > 6 && length % 3 == 1;
            e.is("fault of the first " + length, x.fault(1), whole ? NONE : length);
        }
    }

    /** CODES that a LOG had are none of it. */
    private static void emptyLog() {
        e.promise(23, "The LOG is empty: how many it had.");
        OnePlan x = Due.planned("A(A>Bx,A>Bx|A>Bx,A>By)");
        Due.log(x, 123, 124);
        e.is("one is LEFT", x.ask(), NONE);
        x.clear();
        Due.log(x, 123);
        e.is("two are LEFT", x.ask(), 0);
        e.is("two are LEFT", x.left(1), 3);
        // of HISTORIES that there were
        x = Due.planned("A(A>Bx|A>By)");
        Due.log(x, 124);
        e.is("none is OUT", x.out(0), NONE);
        Due.retype(x, 0, "A>Bx");
        e.is("the first is OUT", x.out(0), 0);
        e.is("by whom", x.out(1), 0);
    }

    private static void newRows() {
        e.promise(27, "A SHEET is a new row of a FORM with n items: n.");
        for (int form = 0; form < 3; form++) {
            for (int next = 0; next < 3; next++) {
                OnePlan x = new OnePlan();
                x.sheet(1, form, 60);
                for (int i = 0; i < 60; i++) {
                    x.put(1, form, i, i + 1);
                }
                x.sheet(1, next, 30);
                x.sheet(1, next, 60);
                for (int i = 0; i < 60; i++) {
                    e.is("item " + i + " of FORM " + next + " behind " + form, x.get(1, next, i), 0);
                }
            }
        }
    }
}
