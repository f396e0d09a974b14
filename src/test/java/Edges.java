import java.io.IOException;
import java.lang.reflect.InvocationTargetException;
import java.lang.reflect.Method;
import java.nio.file.Files;
import java.nio.file.Path;
import java.util.ArrayList;
import java.util.List;
import java.util.Set;
import java.util.TreeSet;

/**
 * What the tests of boundary cases share. Each case quotes the sentence of the document that it holds to; the quote
 * must stand there, so that no test outlives its sentence. A refused call is made on one of two twins, and both must
 * answer everything alike behind it.
 */
final class Edges {
    static final int NONE = -1, BAD = -2, NOT = -3, FULL = -4;
    static final int NULL = -11, INDEX = -12, CAST = -13, STORE = -14, SIZE = -15;
    static final int LEAST = Integer.MIN_VALUE, MOST = Integer.MAX_VALUE;

    /** What twins are made as, ahead of a call. */
    enum State {
        NEW, FINE, FAULTY, TOO_MUCH;

        OnePlan made() {
            OnePlan x = new OnePlan();
            if (this != NEW) {
                fill(x);
            }
            switch (this) {
                case FINE -> Due.type(x, 0, FINE_PLAN);
                case FAULTY -> Due.type(x, 0, FINE_PLAN + ",");
                case TOO_MUCH -> Due.type(x, 0, "2(4(4(A>Bx)))");
                default -> { }
            }
            return x;
        }
    }

    /** With A telling B: 126 123 1024, 127 125, 128 1223, 128; C cannot know. */
    static final String FINE_PLAN = "A(A>Bx,B>Ay|A>Bz|B(B>Cx|-))";
    static final int FINE_HISTORIES = 4;

    private static final Path DOCUMENT = Path.of("../shared/DOC.md");

    private final Due due = new Due();
    private final Set<Integer> promises = new TreeSet<>();
    private final String document;
    private String about = "";

    Edges() throws IOException {
        document = Files.isReadable(DOCUMENT) ? Files.readString(DOCUMENT) : "";
    }

    /** All but the PLAN's text: a PROGRAM, TELLINGS, a LOG, three SHEETS (3 is LOST), and a FINDING (CAST). */
    private static void fill(OnePlan x) {
        Due.type(x, 1, "!Bx?By|!Bz");
        x.tell(2);
        Due.log(x, 128, 1223, 123);
        x.lose(3);
        int[][] items = {{5, -7, 100}, {123, -30000, 3, 4}, {LEAST, 9}};
        for (int s = 0; s < items.length; s++) {
            x.sheet(s, s, items[s].length);
            for (int i = 0; i < items[s].length; i++) {
                x.put(s, s, i, items[s][i]);
            }
        }
        x.get(0, 1, 0);
    }

    // ---- what a case is about

    void promise(int number, String sentence) {
        promises.add(number);
        about = "promise " + number + ", '" + sentence + "': ";
        quoted(section("## Promise " + number + ":", "\n## "), sentence);
    }

    void terms(String sentence) {
        about = "terms, '" + sentence + "': ";
        quoted(section("# OnePlan", "\n## Promise 1:"), sentence);
    }

    private String section(String begin, String end) {
        int from = Math.max(0, document.indexOf(begin));
        int to = document.indexOf(end, from + begin.length());
        return document.substring(from, to < 0 ? document.length() : to);
    }

    private void quoted(String section, String sentence) {
        boolean stands = document.isEmpty() || plain(section).contains(plain(sentence));
        is("does it stand in the document", stands ? 1 : 0, 1);
    }

    private static String plain(String text) {
        return text.replaceAll("\\s+", " ");
    }

    // ---- answers

    void is(String call, long got, long want) {
        due.is(about + call, got, want);
    }

    /** A call, as it is written, on a new object made so. */
    void answers(State state, String call, long want) {
        is(state + " " + call, on(state.made(), call), want);
    }

    /** Answers BAD, NOT, FULL, NONE or the like, and changes nothing. */
    void refused(State state, String call, long want) {
        OnePlan x = state.made();
        OnePlan twin = state.made();
        is(state + " " + call, on(x, call), want);
        is(state + " " + call + ", the latest FINDING", x.count(8), twin.count(8));
        alike(state + " " + call, x, twin);
    }

    /** A FINDING: it changes count() 8, and nothing else. */
    void found(State state, String call, long want, int number) {
        OnePlan x = state.made();
        OnePlan twin = state.made();
        is(state + " " + call, on(x, call), want);
        is(state + " " + call + ", the FINDING's number", x.count(8), number);
        alike(state + " " + call, x, twin);
    }

    void found(State state, String call, long want) {
        found(state, call, want, (int) (-10 - want));
    }

    /** With # for a number: from the first to the last they are taken, the ones beside them are BAD. */
    void range(State state, String call, int first, int last) {
        for (int number : new int[] {first, last}) {
            String taken = call.replace("#", String.valueOf(number));
            long answer = on(state.made(), taken);
            is(state + " " + taken + " is BAD", answer == BAD || answer == LEAST ? 1 : 0, 0);
        }
        boolean gets = call.startsWith("get(");
        for (long number : new long[] {first - 1L, last + 1L, LEAST, MOST}) {
            if (number < first && number >= LEAST || number > last && number <= MOST) {
                refused(state, call.replace("#", String.valueOf(number)), gets ? LEAST : BAD);
            }
        }
    }

    void alike(String call, OnePlan x, OnePlan twin) {
        List<String> one = everything(x);
        List<String> other = everything(twin);
        for (int i = 0; i < one.size(); i++) {
            if (!one.get(i).equals(other.get(i))) {
                System.out.println(about + call + ", behind it: " + one.get(i) + ", without it: " + other.get(i));
            }
        }
        is(call + ", all alike behind it", one.equals(other) ? 1 : 0, 1);
    }

    /** All that can be seen of an object but the latest FINDING, in less than 512 calls; the object is spent then. */
    private static List<String> everything(OnePlan x) {
        List<String> seen = new ArrayList<>();
        for (String call : ("count(0) count(1) count(2) count(3) count(4) count(5) fault(0) fault(1) plan(0) plan(1) "
            + "plan(2) histories() said(0,-1) said(0,0) said(1,1) said(3,0) look(1,0,1) looks(0) looks(1) looks(2) "
            + "parts(0,1) sound() moment(0) moment(1) moment(2) moment(3) mended() run(0,7,1) step(0,7,1) "
            + "longest(0,0,1) trips(0,0) trips(0,1) lost(0,0,1,0) lost(0,0,1,1) fits(0) breach(0) breach(1) breach(2) "
            + "left(0) left(1) left(2) left(3) out(0) out(1) ask() digest()").split(" ")) {
            see(x, call, seen);
        }
        for (int s = 0; s < 4; s++) {
            for (int item = 0; item < 18; item++) {
                see(x, "get(" + s + "," + item / 6 + "," + item % 6 + ")", seen);
            }
        }
        // the LOG and the PROGRAM once more beside a PLAN that is fine, as they can't be seen beside another one
        for (String call : "wipe(0) wipe(0) tell(2)".split(" ")) {
            see(x, call, seen);
        }
        Due.type(x, 0, FINE_PLAN);
        for (String call : ("histories() left(0) left(1) left(2) left(3) out(0) ask() fits(0) breach(0) breach(1) "
            + "lose(0) lose(1) lose(2) lose(3) clear() clear() wipe(1) wipe(1) digest()").split(" ")) {
            see(x, call, seen);
        }
        return seen;
    }

    private static void see(OnePlan x, String call, List<String> seen) {
        seen.add(call + " " + on(x, call));
    }

    /** The call that is written so. */
    static long on(OnePlan x, String call) {
        int open = call.indexOf('(');
        String inside = call.substring(open + 1, call.length() - 1).trim();
        String[] written = inside.isEmpty() ? new String[0] : inside.split(",");
        Object[] numbers = new Object[written.length];
        for (int i = 0; i < written.length; i++) {
            numbers[i] = number(written[i].trim());
        }
        for (Method method : OnePlan.class.getMethods()) {
            if (method.getName().equals(call.substring(0, open)) && method.getParameterCount() == numbers.length
                && method.getDeclaringClass() == OnePlan.class) {
                try {
                    return ((Number) method.invoke(x, numbers)).longValue();
                } catch (IllegalAccessException | InvocationTargetException thrown) {
                    throw new IllegalStateException(call, thrown);
                }
            }
        }
        throw new IllegalArgumentException(call);
    }

    private static int number(String written) {
        return switch (written) {
            case "NONE" -> NONE;
            case "LEAST" -> LEAST;
            case "MOST" -> MOST;
            default -> Integer.parseInt(written);
        };
    }

    /** The test ends here; each of its promises must have had a case. */
    void end(String name, int first, int last) {
        about = "";
        for (int number = first; number <= last; number++) {
            is("cases of promise " + number, promises.contains(number) ? 1 : 0, 1);
        }
        due.end(name);
    }
}
