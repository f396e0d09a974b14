import java.io.IOException;
import java.math.BigInteger;

/** Boundary cases of the promises 27 to 34, and of the terms about SHEETS and FINDINGS. */
public final class SheetsEdgesTest {
    private static final int NONE = -1, BAD = -2, NOT = -3, FULL = -4;
    private static final int NULL = -11, INDEX = -12, CAST = -13, STORE = -14, SIZE = -15;
    private static final int LEAST = Integer.MIN_VALUE, MOST = Integer.MAX_VALUE;
    private static final Edges.State NEW = Edges.State.NEW, FINE = Edges.State.FINE, FAULTY = Edges.State.FAULTY,
        TOO_MUCH = Edges.State.TOO_MUCH;
    private static Edges e;

    public static void main(String[] args) throws IOException {
        e = new Edges();
        lostAtFirst();
        itemsAndForms();
        findings();
        sheet();
        sheetOf60();
        lose();
        put();
        lowestBits();
        get();
        copy();
        copyOutside();
        asTheyWere();
        write();
        writeAsMany();
        count();
        digest();
        e.end("SheetsEdgesTest", 27, 34);
    }

    // ---- terms

    private static void lostAtFirst() {
        e.terms("SHEETS 0 .. 3 are LOST (at first) or a row of a FORM: 0 bytes, 1 shorts, 2 ints");
        for (int s = 0; s < 4; s++) {
            e.found(NEW, "lose(" + s + ")", NULL);
            e.found(NEW, "log(" + s + ")", NULL);
            e.found(NEW, "write(" + s + ", 0)", NULL);
            for (int form = 0; form < 3; form++) {
                e.found(NEW, "put(" + s + ", " + form + ", 0, 0)", NULL);
                e.found(NEW, "get(" + s + ", " + form + ", 0)", LEAST, 1);
                e.answers(NEW, "sheet(" + s + ", " + form + ", 60)", 60);
            }
        }
    }

    private static void itemsAndForms() {
        e.terms("of 0 to 60 items (0 at first).");
        OnePlan x = new OnePlan();
        for (int s = 0; s < 4; s++) {
            x.sheet(s, s % 3, 60);
        }
        for (int i = 0; i < 60; i++) {
            e.is("item " + i, x.get(i % 4, i % 4 % 3, i), 0);
        }
        // the last item of one SHEET is no item of the next
        for (int s = 0; s < 4; s++) {
            x.put(s, s % 3, 0, 10 + s);
            x.put(s, s % 3, 59, 20 + s);
        }
        for (int s = 0; s < 4; s++) {
            e.is("first of " + s, x.get(s, s % 3, 0), 10 + s);
            e.is("last of " + s, x.get(s, s % 3, 59), 20 + s);
            e.is("beside the first of " + s, x.get(s, s % 3, 1), 0);
            e.is("beside the last of " + s, x.get(s, s % 3, 58), 0);
        }
        x.lose(1);
        e.is("another one is LOST", x.get(0, 0, 59), 20);
        e.is("another one is LOST", x.get(2, 2, 0), 12);
        x.sheet(1, 2, 60);
        e.is("0 at first again", x.get(1, 2, 0), 0);
        e.is("0 at first again", x.get(1, 2, 59), 0);
    }

    private static void findings() {
        e.terms("FINDINGS (answers -10 less the number; they change nothing but count() 8): 1 NULL: the SHEET is LOST; "
            + "2 INDEX: there is no such item; 3 CAST: it has another FORM; 4 STORE: unlike FORMS; 5 SIZE: below 0.");
        for (Edges.State state : new Edges.State[] {FINE, FAULTY, TOO_MUCH}) {
            e.found(state, "lose(3)", -11, 1);
            e.found(state, "put(0, 0, 3, 1)", -12, 2);
            e.found(state, "put(0, 1, 0, 1)", -13, 3);
            e.found(state, "copy(0, 0, 1, 0, 1)", -14, 4);
            e.found(state, "sheet(0, 0, -1)", -15, 5);
        }
        OnePlan x = FINE.made();
        String[] calls = {"sheet(0, 0, -1)", "lose(3)", "copy(0, 0, 1, 0, 1)", "put(0, 0, 3, 1)", "put(0, 1, 0, 1)"};
        for (String call : calls) {
            long answer = Edges.on(x, call);
            e.is("the latest one, " + call, x.count(8), -10 - answer);
            x.sheet(3, 0, 1);
            x.lose(3);
            x.sheet(0, 9, 9);
            e.is("what goes well or is BAD leaves it, " + call, x.count(8), -10 - answer);
        }
    }

    // ---- promises

    private static void sheet() {
        e.promise(27, "A SHEET is a new row of a FORM with n items: n. BAD: SHEET, FORM, above 60; SIZE.");
        for (Edges.State state : Edges.State.values()) {
            e.range(state, "sheet(#, 0, 1)", 0, 3);
            e.range(state, "sheet(3, #, 1)", 0, 2);
            e.refused(state, "sheet(0, 0, 61)", BAD);
            e.refused(state, "sheet(0, 0, MOST)", BAD);
            e.found(state, "sheet(0, 0, -1)", SIZE);
            e.found(state, "sheet(3, 2, LEAST)", SIZE);
            e.answers(state, "sheet(0, 2, 0)", 0);
            e.answers(state, "sheet(0, 2, 60)", 60);
            e.refused(state, "sheet(4, 0, -1)", BAD);
            e.refused(state, "sheet(-1, 0, -1)", BAD);
            e.refused(state, "sheet(0, 3, -1)", BAD);
            e.refused(state, "sheet(0, -1, -1)", BAD);
        }
    }

    private static void sheetOf60() {
        e.promise(27, "A SHEET is a new row of a FORM with n items: n.");
        OnePlan x = FINE.made();
        e.is("of none", x.sheet(1, 1, 0), 0);
        e.is("it has no item 0", x.put(1, 1, 0, 1), INDEX);
        e.is("it is not LOST", x.lose(1), 0);
        x = FINE.made();
        e.is("a longer one", x.sheet(1, 1, 60), 60);
        for (int i = 0; i < 60; i++) {
            e.is("item " + i + " of a new row", x.get(1, 1, i), 0);
        }
        e.is("beyond", x.put(1, 1, 60, 1), INDEX);
        x = FINE.made();
        e.is("a shorter one of another FORM", x.sheet(1, 2, 2), 2);
        e.is("the FORM that it had", x.put(1, 1, 0, 1), CAST);
        e.is("an item that it had", x.put(1, 2, 2, 1), INDEX);
        e.is("an item that it has", x.put(1, 2, 1, 1), 1);
        e.is("how many", x.lose(1), 2);
        x.sheet(1, 2, 4);
        e.is("no item of an older row", x.get(1, 2, 1), 0);
        e.is("no item of an older row", x.get(1, 2, 3), 0);
    }

    private static void lose() {
        e.promise(28, "It is LOST: how many items it had. BAD; NULL.");
        for (Edges.State state : Edges.State.values()) {
            e.range(state, "lose(#)", 0, 3);
            e.found(state, "lose(3)", NULL);
        }
        e.answers(FINE, "lose(0)", 3);
        e.answers(FINE, "lose(1)", 4);
        OnePlan x = FINE.made();
        x.sheet(3, 0, 0);
        e.is("one of none", x.lose(3), 0);
        e.is("it is LOST", x.lose(3), NULL);
        x.sheet(3, 0, 60);
        e.is("one of 60", x.lose(3), 60);
        e.is("it is LOST", x.put(3, 0, 0, 1), NULL);
    }

    private static void put() {
        e.promise(29, "Item i, treated as of a FORM, becomes v (the lowest bits that it has): 1. BAD; NULL; CAST; "
            + "INDEX.");
        for (Edges.State state : new Edges.State[] {FINE, FAULTY, TOO_MUCH}) {
            e.range(state, "put(#, 0, 0, 1)", 0, 3);
            e.range(state, "put(0, #, 0, 1)", 0, 2);
            e.range(state, "put(3, #, 0, 1)", 0, 2);
            for (int s = 0; s < 3; s++) {
                int items = new int[] {3, 4, 2}[s];
                String call = "put(" + s + ", " + s + ", #, 1)";
                e.answers(state, call.replace("#", "0"), 1);
                e.answers(state, call.replace("#", String.valueOf(items - 1)), 1);
                e.found(state, call.replace("#", String.valueOf(items)), INDEX);
                e.found(state, call.replace("#", "-1"), INDEX);
                e.found(state, call.replace("#", "MOST"), INDEX);
                e.found(state, call.replace("#", "LEAST"), INDEX);
            }
            for (int form = 1; form < 3; form++) {
                e.found(state, "put(0, " + form + ", 0, 1)", CAST);
                e.found(state, "put(0, " + form + ", 9, 1)", CAST); // ahead of INDEX
                e.found(state, "put(0, " + form + ", -1, 1)", CAST);
                e.found(state, "put(3, " + form + ", -1, 1)", NULL); // ahead of both
            }
            e.refused(state, "put(3, 3, -1, 1)", BAD); // ahead of all
            e.refused(state, "put(4, 0, -1, 1)", BAD);
        }
        OnePlan x = FINE.made();
        x.sheet(3, 0, 60);
        e.is("the last of 60", x.put(3, 0, 59, 7), 1);
        e.is("beyond 60", x.put(3, 0, 60, 7), INDEX);
        x.sheet(3, 0, 0);
        e.is("there is none", x.put(3, 0, 0, 7), INDEX);
    }

    private static void lowestBits() {
        e.promise(29, "becomes v (the lowest bits that it has): 1.");
        int[] values = {0, 1, -1, 127, 128, 129, 255, 256, -128, -129, 32767, 32768, 32769, 65535, 65536, -32768,
            -32769, 123456789, -123456789, LEAST, MOST, LEAST + 128, MOST - 128};
        for (int v : values) {
            for (int form = 0; form < 3; form++) {
                OnePlan x = new OnePlan();
                x.sheet(2, form, 3);
                x.put(2, form, 1, 99);
                e.is("put " + v, x.put(2, form, 1, v), 1);
                int bits = form == 0 ? 256 : 65536;
                long kept = Math.floorMod((long) v, (long) bits);
                long want = form == 2 ? v : kept < bits / 2 ? kept : kept - bits;
                e.is(v + " in FORM " + form, x.get(2, form, 1), want);
                e.is("beside " + v, x.get(2, form, 0) + x.get(2, form, 2), 0);
            }
        }
    }

    private static void get() {
        e.promise(30, "Item i of it. BAD: the least int; so are NULL, CAST, INDEX (count() 8 tells).");
        for (Edges.State state : new Edges.State[] {FAULTY, TOO_MUCH, FINE}) {
            e.range(state, "get(#, 0, 0)", 0, 0); // the others are of another FORM, or LOST
            e.refused(state, "get(4, 0, 0)", LEAST);
            e.refused(state, "get(-1, 0, 0)", LEAST);
            e.refused(state, "get(0, 3, 0)", LEAST);
            e.refused(state, "get(0, -1, 0)", LEAST);
            e.refused(state, "get(3, 3, -1)", LEAST); // BAD, and no FINDING
            e.found(state, "get(3, 0, -1)", LEAST, 1);
            e.found(state, "get(0, 1, -1)", LEAST, 3);
            e.found(state, "get(0, 2, 3)", LEAST, 3);
            e.found(state, "get(0, 0, 3)", LEAST, 2);
            e.found(state, "get(0, 0, -1)", LEAST, 2);
            e.found(state, "get(0, 0, MOST)", LEAST, 2);
            e.found(state, "get(0, 0, LEAST)", LEAST, 2);
            e.answers(state, "get(0, 0, 0)", 5);
            e.answers(state, "get(0, 0, 2)", 100);
            e.answers(state, "get(1, 1, 3)", 4);
        }
        OnePlan x = FINE.made();
        e.is("an item that is the least int", x.get(2, 2, 0), LEAST);
        e.is("no FINDING by it", x.count(8), 3);
        x.sheet(3, 1, 60);
        e.is("the last of 60", x.get(3, 1, 59), 0);
        e.is("beyond 60", x.get(3, 1, 60), LEAST);
        e.is("INDEX", x.count(8), 2);
    }

    private static void copy() {
        e.promise(31, "BAD: the SHEETS; NULL: s, t; STORE; INDEX: below 0, not so many.");
        for (Edges.State state : Edges.State.values()) {
            e.range(state, "copy(#, 0, 1, 0, 0)", 0, 3);
            e.range(state, "copy(1, 0, #, 0, 0)", 0, 3);
            e.refused(state, "copy(4, -1, 3, -1, -1)", BAD); // ahead of NULL
            e.refused(state, "copy(3, -1, 4, -1, -1)", BAD);
            e.found(state, "copy(3, 0, 3, 0, 0)", NULL);
        }
        e.found(FINE, "copy(3, 0, 0, 0, 0)", NULL);
        e.found(FINE, "copy(0, 0, 3, 0, 0)", NULL);
        e.found(FINE, "copy(0, -1, 3, 0, 0)", NULL); // ahead of INDEX
        e.found(FINE, "copy(3, 0, 0, 0, -1)", NULL);
        for (String unlike : "0,1 1,0 0,2 2,0 1,2 2,1".split(" ")) {
            String[] both = unlike.split(",");
            e.found(FINE, "copy(" + both[0] + ", 0, " + both[1] + ", 0, 0)", STORE); // though nothing comes
            e.found(FINE, "copy(" + both[0] + ", -1, " + both[1] + ", 99, 7)", STORE); // ahead of INDEX
        }
    }

    /** SHEET 1 has four shorts; 3 is one of six. */
    private static void copyOutside() {
        e.promise(31, "INDEX: below 0, not so many.");
        int[][] outside = {{-1, 0, 0}, {0, -1, 0}, {0, 0, -1}, {0, 0, 5}, {4, 0, 1}, {5, 0, 0}, {1, 0, 4}, {0, 6, 1},
            {0, 7, 0}, {0, 3, 4}, {LEAST, 0, 0}, {0, LEAST, 0}, {0, 0, LEAST}, {MOST, 0, 0}, {0, MOST, 0}, {0, 0, MOST},
            {1, 0, MOST}, {0, 1, MOST}, {MOST, 0, 1}, {0, MOST, 1}, {MOST, MOST, MOST}, {LEAST, LEAST, LEAST},
            {-1, 0, 1}, {0, -1, 1}, {4, 6, 1}};
        int[][] inside = {{0, 0, 0}, {4, 6, 0}, {4, 0, 0}, {0, 6, 0}, {0, 0, 4}, {0, 2, 4}, {3, 5, 1}, {3, 0, 1},
            {0, 5, 1}};
        for (int[] o : outside) {
            OnePlan x = FINE.made();
            OnePlan twin = FINE.made();
            x.sheet(3, 1, 6);
            twin.sheet(3, 1, 6);
            String call = "copy(1, " + o[0] + ", 3, " + o[1] + ", " + o[2] + ")";
            e.is(call, Edges.on(x, call), INDEX);
            e.is(call + ", the FINDING", x.count(8), 2);
            e.alike(call, x, twin);
        }
        for (int[] o : inside) {
            OnePlan x = FINE.made();
            x.sheet(3, 1, 6);
            int[] want = new int[6];
            System.arraycopy(new int[] {123, -30000, 3, 4}, o[0], want, o[1], o[2]);
            e.is("inside", x.copy(1, o[0], 3, o[1], o[2]), 1);
            e.is("no FINDING", x.count(8), 3);
            for (int i = 0; i < 6; i++) {
                e.is("copied " + o[0] + " " + o[1] + " " + o[2] + " at " + i, x.get(3, 1, i), want[i]);
            }
        }
    }

    private static void asTheyWere() {
        e.promise(31, "n items of SHEET s, from i on, come to SHEET t (perhaps s, as they were), from j on: 1.");
        for (int form = 0; form < 3; form++) {
            for (int i = 0; i <= 4; i++) {
                for (int j = 0; j <= 4; j++) {
                    for (int n = 0; n <= 4 - Math.max(i, j); n++) {
                        copyWithin(form, i, j, n);
                    }
                }
            }
        }
        OnePlan x = new OnePlan();
        x.sheet(0, 2, 60);
        x.put(0, 2, 0, LEAST);
        e.is("59 of 60 go up", x.copy(0, 0, 0, 1, 59), 1);
        e.is("the second", x.get(0, 2, 1), LEAST);
        e.is("the third", x.get(0, 2, 2), 0);
        x.put(0, 2, 59, 8);
        e.is("59 of 60 go down", x.copy(0, 1, 0, 0, 59), 1);
        e.is("the first", x.get(0, 2, 0), LEAST);
        e.is("the last but one", x.get(0, 2, 58), 8);
        e.is("the last", x.get(0, 2, 59), 8);
        e.is("60 of 60", x.copy(0, 0, 0, 0, 60), 1);
        e.is("61 of 60", x.copy(0, 0, 0, 0, 61), INDEX);
    }

    private static void copyWithin(int form, int i, int j, int n) {
        OnePlan x = new OnePlan();
        x.sheet(2, form, 4);
        int[] items = {1, -2, 3, -4};
        for (int k = 0; k < 4; k++) {
            x.put(2, form, k, items[k]);
        }
        e.is("within one SHEET", x.copy(2, i, 2, j, n), 1);
        System.arraycopy(items, i, items, j, n);
        for (int k = 0; k < 4; k++) {
            e.is("item " + k + " behind " + i + " " + j + " " + n, x.get(2, form, k), items[k]);
        }
    }

    private static void write() {
        e.promise(32, "BAD; NULL; NOT; FULL; BAD: no such HISTORY.");
        for (Edges.State state : Edges.State.values()) {
            e.refused(state, "write(4, 0)", BAD);
            e.refused(state, "write(-1, 0)", BAD);
            e.refused(state, "write(0, 30)", BAD);
            e.refused(state, "write(0, -1)", BAD);
            e.refused(state, "write(3, 30)", BAD); // ahead of NULL
            e.refused(state, "write(3, LEAST)", BAD);
            e.found(state, "write(3, 29)", NULL); // ahead of NOT, FULL, and no such HISTORY
            e.found(state, "write(3, 0)", NULL);
        }
        for (int s = 0; s < 3; s++) {
            e.range(FINE, "write(" + s + ", #)", 0, Edges.FINE_HISTORIES - 1);
            e.refused(FINE, "write(" + s + ", 29)", BAD);
            e.refused(FAULTY, "write(" + s + ", 0)", NOT);
            e.refused(FAULTY, "write(" + s + ", 29)", NOT);
            e.refused(TOO_MUCH, "write(" + s + ", 0)", FULL);
            e.refused(TOO_MUCH, "write(" + s + ", 29)", FULL);
        }
    }

    private static void writeAsMany() {
        e.promise(32, "CODES of a HISTORY come to a SHEET from item 0 on (the lowest bits), as many as there are "
            + "items: how many.");
        for (int size = 0; size <= 5; size++) {
            for (int form = 0; form < 3; form++) {
                OnePlan x = FINE.made();
                x.sheet(3, form, size);
                for (int i = 0; i < size; i++) {
                    x.put(3, form, i, 77);
                }
                e.is("of three words to " + size, x.write(3, 0), Math.min(3, size));
                for (int i = 0; i < size; i++) {
                    int code = i < 3 ? x.said(0, i) : 77;
                    e.is("item " + i + " of " + size, x.get(3, form, i), form == 0 ? (byte) code : code);
                }
            }
        }
        OnePlan x = Due.planned("4(3(A>Bx,F>Ez))");
        x.sheet(0, 0, 60);
        e.is("24 words to 60", x.write(0, 0), 24);
        e.is("the last of them", x.get(0, 0, 23), (byte) 5425);
        e.is("the next stays", x.get(0, 0, 24), 0);
        x.sheet(0, 0, 23);
        e.is("24 words to 23", x.write(0, 0), 23);
        x = Due.planned("-");
        x.sheet(0, 0, 3);
        e.is("no words", x.write(0, 0), 0);
        x = Due.planned("A(-|-|-),A(-|-),A(-|A(-|-|-|A>Bx))");
        x.sheet(0, 2, 2);
        e.is("the last of 30", x.write(0, 29), 1);
        e.is("beyond 30", x.write(0, 30), BAD);
    }

    private static void count() {
        e.promise(33, "0, 1 bytes of both texts, 2 TELLINGS (bits), 3 of the LOG, 4 HISTORIES (-3, -4: NOT, FULL), 5 "
            + "whether it is SOUND (likewise), 8 the number of the latest FINDING (0 before any). BAD.");
        int bytes = Edges.FINE_PLAN.length();
        int[][] want = {{0, 0, 0, 0, NOT, NOT, BAD, BAD, 0, BAD}, {bytes, 10, 2, 3, 4, 0, BAD, BAD, 3, BAD},
            {bytes + 1, 10, 2, 3, NOT, NOT, BAD, BAD, 3, BAD}, {13, 10, 2, 3, FULL, FULL, BAD, BAD, 3, BAD}};
        for (Edges.State state : Edges.State.values()) {
            for (int what = 0; what < 10; what++) {
                e.refused(state, "count(" + what + ")", want[state.ordinal()][what]);
            }
            e.range(state, "count(#)", 0, 5);
            e.range(state, "count(#)", 8, 8);
        }
        OnePlan x = new OnePlan();
        for (int i = 0; i < 161; i++) {
            x.type(0, '-');
            x.type(1, '|');
        }
        e.is("the most bytes of the PLAN", x.count(0), 160);
        e.is("the most bytes of the PROGRAM", x.count(1), 80);
        x.tell((1 << 30) - 1);
        e.is("all TELLINGS", x.count(2), (1 << 30) - 1);
        e.is("SOUND", Due.planned("-").count(5), 1);
    }

    private static void digest() {
        e.promise(34, "h is 17; h becomes 31 h and each of: count() 0 to 5; fault() of both; of each HISTORY (if there "
            + "are) how many words, their CODES, CHAIN; moment() 0 to 3; out() 0; as longs that wrap.");
        for (Edges.State state : Edges.State.values()) {
            OnePlan x = state.made();
            e.is(state + " digest()", x.digest(), digestOf(x));
            e.alike(state + " digest()", x, state.made());
            x = state.made();
            x.type(1, '!');
            x.clear();
            e.is(state + " with other things, digest()", x.digest(), digestOf(x));
        }
        for (String plan : new String[] {"-", "A(-|-|-),A(-|-),A(-|A(-|-|-|A>Bx))", "4(3(A>Bx,B>Ax))", "A(A>Bx|-)"}) {
            OnePlan x = Due.planned(plan);
            e.is("digest of " + plan, x.digest(), digestOf(x));
        }
    }

    /** By numbers that never wrap, cut to 64 bits at the end. */
    private static long digestOf(OnePlan x) {
        BigInteger h = BigInteger.valueOf(17);
        for (int what = 0; what <= 5; what++) {
            h = and(h, x.count(what));
        }
        h = and(and(h, x.fault(0)), x.fault(1));
        for (int history = 0; history < x.histories(); history++) {
            int words = x.said(history, NONE);
            h = and(h, words);
            for (int i = 0; i < words; i++) {
                h = and(h, x.said(history, i));
            }
            h = and(h, x.trips(history, 0));
        }
        for (int what = 0; what <= 3; what++) {
            h = and(h, x.moment(what));
        }
        return and(h, x.out(0)).longValue();
    }

    private static BigInteger and(BigInteger h, long each) {
        return h.multiply(BigInteger.valueOf(31)).add(BigInteger.valueOf(each));
    }
}
