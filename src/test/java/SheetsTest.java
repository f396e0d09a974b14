/** Promises 27 to 34: sheets, counts, the digest. */
public final class SheetsTest {
    private static final int NONE = -1, BAD = -2, NOT = -3, FULL = -4;
    private static final int NULL = -11, INDEX = -12, CAST = -13, STORE = -14, SIZE = -15;
    private static final int LEAST = Integer.MIN_VALUE;
    private static final Due due = new Due();

    public static void main(String[] args) {
        sheet();
        lose();
        put();
        get();
        copy();
        overlaps();
        write();
        count();
        digest();
        due.end("SheetsTest");
    }

    private static void sheet() {
        OnePlan x = new OnePlan();
        due.is("sheet(-1, ..)", x.sheet(-1, 0, 1), BAD);
        due.is("sheet(4, ..)", x.sheet(4, 0, -1), BAD);
        due.is("sheet(.., -1, ..)", x.sheet(0, -1, -1), BAD);
        due.is("sheet(.., 3, ..)", x.sheet(0, 3, 1), BAD);
        due.is("sheet of 61", x.sheet(0, 0, 61), BAD);
        due.is("no finding", x.count(8), 0);
        due.is("sheet of -1", x.sheet(0, 0, -1), SIZE);
        due.is("the finding", x.count(8), 5);
        due.is("still LOST", x.lose(0), NULL);
        due.is("sheet of 60", x.sheet(3, 2, 60), 60);
        due.is("sheet of 0", x.sheet(0, 1, 0), 0);
        x.put(3, 2, 59, 7);
        due.is("SIZE changes nothing", x.sheet(3, 2, LEAST), SIZE);
        due.is("SIZE changes nothing", x.get(3, 2, 59), 7);
        due.is("anew", x.sheet(3, 2, 60), 60);
        due.is("0 at first", x.get(3, 2, 59), 0);
        due.is("BAD changes nothing", x.sheet(3, 0, 61), BAD);
        due.is("BAD changes nothing", x.get(3, 2, 59), 0);
    }

    private static void lose() {
        OnePlan x = new OnePlan();
        due.is("lose(-1)", x.lose(-1), BAD);
        due.is("lose(4)", x.lose(4), BAD);
        due.is("lose(0)", x.lose(0), NULL);
        x.sheet(0, 0, 5);
        due.is("lose(0)", x.lose(0), 5);
        due.is("lose(0) again", x.lose(0), NULL);
        x.sheet(0, 0, 0);
        due.is("lose of none", x.lose(0), 0);
    }

    private static void put() {
        OnePlan x = new OnePlan();
        due.is("put(4, ..)", x.put(4, 0, 0, 0), BAD);
        due.is("put(.., 3, ..)", x.put(0, 3, 0, 0), BAD);
        due.is("put in a LOST one", x.put(0, 0, -1, 0), NULL);
        x.sheet(0, 0, 2);
        due.is("put of another form", x.put(0, 1, 9, 0), CAST);
        due.is("put at 2", x.put(0, 0, 2, 0), INDEX);
        due.is("put at -1", x.put(0, 0, -1, 0), INDEX);
        due.is("the finding", x.count(8), 2);
        due.is("put", x.put(0, 0, 1, 200), 1);
        due.is("a byte", x.get(0, 0, 1), -56);
        due.is("the other one", x.get(0, 0, 0), 0);
        x.sheet(1, 1, 1);
        due.is("put", x.put(1, 1, 0, 0x18001), 1);
        due.is("a short", x.get(1, 1, 0), -32767);
        x.sheet(2, 2, 1);
        due.is("put", x.put(2, 2, 0, LEAST), 1);
        due.is("an int", x.get(2, 2, 0), LEAST);
        due.is("no new finding", x.count(8), 2);
        due.is("neighbours stay", x.get(0, 0, 1), -56);
    }

    private static void get() {
        OnePlan x = new OnePlan();
        due.is("get(-1, ..)", x.get(-1, 0, 0), LEAST);
        due.is("get(.., 3, ..)", x.get(0, 3, 0), LEAST);
        due.is("BAD is no finding", x.count(8), 0);
        due.is("get of a LOST one", x.get(0, 0, 0), LEAST);
        due.is("NULL", x.count(8), 1);
        x.sheet(0, 2, 3);
        due.is("get of another form", x.get(0, 0, 5), LEAST);
        due.is("CAST", x.count(8), 3);
        due.is("get at 3", x.get(0, 2, 3), LEAST);
        due.is("INDEX", x.count(8), 2);
        x.put(0, 2, 2, -9);
        due.is("get", x.get(0, 2, 2), -9);
    }

    private static void copy() {
        OnePlan x = new OnePlan();
        due.is("copy(4, ..)", x.copy(4, 0, 0, 0, 0), BAD);
        due.is("copy(.., -1, ..)", x.copy(0, 0, -1, 0, 0), BAD);
        due.is("copy of LOST ones", x.copy(0, 0, 1, 0, 0), NULL);
        x.sheet(0, 1, 4);
        due.is("copy to a LOST one", x.copy(0, -1, 1, 0, 0), NULL);
        due.is("copy from a LOST one", x.copy(1, 0, 0, 0, 0), NULL);
        x.sheet(1, 2, 4);
        due.is("unlike forms", x.copy(0, -1, 1, 0, 0), STORE);
        due.is("the finding", x.count(8), 4);
        x.sheet(1, 1, 3);
        int[][] outside = {{-1, 0, 1}, {0, -1, 1}, {0, 0, -1}, {0, 0, 4}, {4, 0, 1}, {0, 3, 1}, {5, 0, 0}, {0, 4, 0},
            {2, 0, 3}, {0, 2, 2}, {1, 1, Integer.MAX_VALUE}, {Integer.MAX_VALUE, 0, 1}, {0, Integer.MAX_VALUE, 1},
            {LEAST, 0, LEAST}};
        for (int[] o : outside) {
            due.is("outside " + o[0] + " " + o[1] + " " + o[2], x.copy(0, o[0], 1, o[1], o[2]), INDEX);
        }
        due.is("nothing at the ends", x.copy(0, 4, 1, 3, 0), 1);
        for (int i = 0; i < 4; i++) {
            x.put(0, 1, i, 10 + i);
        }
        due.is("copy", x.copy(0, 2, 1, 1, 2), 1);
        int[] want = {0, 12, 13};
        for (int i = 0; i < 3; i++) {
            due.is("copied " + i, x.get(1, 1, i), want[i]);
        }
    }

    private static void overlaps() {
        int[][] moves = {{0, 1, 4}, {1, 0, 4}, {0, 2, 3}, {2, 0, 3}, {0, 0, 5}, {3, 3, 2}};
        for (int[] m : moves) {
            OnePlan x = new OnePlan();
            x.sheet(2, 0, 5);
            int[] items = {1, 2, 3, 4, 5};
            for (int i = 0; i < 5; i++) {
                x.put(2, 0, i, items[i]);
            }
            due.is("overlap", x.copy(2, m[0], 2, m[1], m[2]), 1);
            System.arraycopy(items, m[0], items, m[1], m[2]);
            for (int i = 0; i < 5; i++) {
                due.is("overlap " + m[0] + " " + m[1] + " at " + i, x.get(2, 0, i), items[i]);
            }
        }
    }

    private static void write() {
        OnePlan x = Due.planned("A(A>Bx,B>Ay|A>Bz)");
        due.is("write(4, ..)", x.write(4, 0), BAD);
        due.is("write(.., 30)", x.write(0, 30), BAD);
        due.is("write to a LOST one", x.write(0, 29), NULL);
        x.sheet(0, 2, 4);
        x.put(0, 2, 2, 77);
        due.is("no such history", x.write(0, 2), BAD);
        due.is("write", x.write(0, 0), 2);
        due.is("item 0", x.get(0, 2, 0), 123);
        due.is("item 1", x.get(0, 2, 1), 1024);
        due.is("item 2 stays", x.get(0, 2, 2), 77);
        x.sheet(1, 0, 1);
        due.is("as many as there are items", x.write(1, 1), 1);
        due.is("item 0", x.get(1, 0, 0), 125);
        x.sheet(1, 0, 2);
        x.write(1, 0);
        due.is("the lowest bits", x.get(1, 0, 1), (byte) 1024);
        x.sheet(1, 0, 0);
        due.is("no items", x.write(1, 0), 0);
        x.type(0, ',');
        due.is("NULL ahead of NOT", x.write(3, 0), NULL);
        due.is("NOT ahead of no such history", x.write(0, 29), NOT);
        Due.retype(x, 0, "2(4(4(A>Bx)))");
        due.is("FULL", x.write(0, 29), FULL);
        due.is("BAD ahead of NULL", x.write(3, 30), BAD);
    }

    private static void count() {
        OnePlan x = Due.planned("A(A>Bx|-)");
        Due.type(x, 1, "!Bx");
        Due.log(x, 123, 124);
        x.tell(9);
        int[] want = {9, 3, 9, 2, 2, 0, BAD, BAD, 0, BAD};
        for (int what = 0; what < want.length; what++) {
            due.is("count " + what, x.count(what), want[what]);
        }
        due.is("count -1", x.count(-1), BAD);
        x.tell(2);
        due.is("sound", x.count(5), 1);
        Due.retype(x, 0, "2(4(4(A>Bx)))");
        due.is("FULL", x.count(4), FULL);
        due.is("FULL", x.count(5), FULL);
        x.type(0, 'x');
        due.is("NOT", x.count(4), NOT);
        due.is("NOT", x.count(5), NOT);
    }

    private static void digest() {
        String[] plans = {"", "A>Bx,", "2(4(4(A>Bx)))", "A(A>Bx,B>Ay|A>Bz)", "A(A>Bx|-),3(B>Ax)", "-"};
        for (String plan : plans) {
            for (int variant = 0; variant < 8; variant++) {
                OnePlan x = Due.planned(plan);
                x.tell((variant & 1) * 2);
                Due.type(x, 1, (variant & 2) == 0 ? "" : "!Bx?");
                Due.log(x, (variant & 4) == 0 ? new int[0] : new int[] {123, 5000});
                due.is("digest of " + plan + " " + variant, x.digest(), digestByCalls(x));
            }
        }
        due.is("a new one", new OnePlan().digest(), new OnePlan().digest());
    }

    private static long digestByCalls(OnePlan x) {
        long h = 17;
        for (int what = 0; what <= 5; what++) {
            h = 31 * h + x.count(what);
        }
        h = 31 * h + x.fault(0);
        h = 31 * h + x.fault(1);
        for (int history = 0; history < x.histories(); history++) {
            h = 31 * h + x.said(history, NONE);
            for (int i = 0; i < x.said(history, NONE); i++) {
                h = 31 * h + x.said(history, i);
            }
            h = 31 * h + x.trips(history, 0);
        }
        for (int what = 0; what < 4; what++) {
            h = 31 * h + x.moment(what);
        }
        return 31 * h + x.out(0);
    }
}
