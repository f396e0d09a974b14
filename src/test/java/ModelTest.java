import java.util.Random;

/** All promises: many runs of calls by lots, each answer beside the model's. */
public final class ModelTest {
    private static final Due due = new Due();
    private static final int RUNS = 1500;
    /** LONGEST goes through every RUN in the model: not for long HISTORIES. */
    private static final int LONGEST_WORDS = 9;

    private final Random lots;
    private final OnePlan x = new OnePlan();
    private final Model m = new Model();
    private final StringBuilder calls = new StringBuilder();
    private int programTalker;

    private ModelTest(long seed) {
        lots = new Random(seed);
    }

    public static void main(String[] args) {
        long first = args.length > 0 ? Long.parseLong(args[0]) : 0;
        int runs = args.length > 1 ? Integer.parseInt(args[1]) : RUNS;
        for (long seed = first; seed < first + runs && due.wrong() == 0; seed++) {
            new ModelTest(seed).go(seed);
        }
        due.end("ModelTest");
    }

    private void go(long seed) {
        int turns = 10 + lots.nextInt(30);
        for (int turn = 0; turn < turns && due.wrong() == 0; turn++) {
            if (turn == 0 || lots.nextInt(8) == 0) {
                newPlan();
            }
            turn(lots.nextInt(34));
        }
        same("digest()", x.digest(), m.digest());
        if (due.wrong() != 0) {
            System.out.println("seed " + seed + ":" + calls);
        }
    }

    private void same(String call, long got, long want) {
        calls.append(' ').append(call);
        due.is(call, got, want);
    }

    private void newPlan() {
        same("wipe(0)", x.wipe(0), m.wipe(0));
        StringBuilder text = new StringBuilder(items(0, 2 + lots.nextInt(4)));
        if (lots.nextInt(6) == 0) {
            String signs = "ABCF>(|),-234xz";
            int place = lots.nextInt(text.length() + 1);
            char sign = signs.charAt(lots.nextInt(signs.length()));
            switch (lots.nextInt(3)) {
                case 0 -> text.insert(place, sign);
                case 1 -> text.setLength(place);
                default -> text.setCharAt(Math.min(place, text.length() - 1), sign);
            }
        }
        typeBoth(0, text.toString());
        if (lots.nextInt(2) == 0) {
            same("wipe(1)", x.wipe(1), m.wipe(1));
            typeBoth(1, program());
        }
        if (lots.nextInt(2) == 0) {
            tell();
        }
    }

    private void typeBoth(int text, String bytes) {
        calls.append(' ').append(bytes);
        for (int i = 0; i < bytes.length(); i++) {
            due.is("type of " + bytes, x.type(text, bytes.charAt(i)), m.type(text, bytes.charAt(i)));
        }
    }

    private String items(int depth, int room) {
        StringBuilder text = new StringBuilder();
        int many = 1 + lots.nextInt(Math.max(1, room)) + (depth == 0 ? lots.nextInt(3) : 0);
        for (int i = 0; i < many; i++) {
            text.append(i == 0 ? "" : ",").append(item(depth, room));
        }
        return text.toString();
    }

    private String item(int depth, int room) {
        int kind = lots.nextInt(10);
        if (kind >= 7 && (depth < 4 || lots.nextInt(40) == 0)) {
            if (kind == 9) {
                return (2 + lots.nextInt(lots.nextInt(3) + 1)) + "(" + items(depth + 1, room - 1) + ")";
            }
            StringBuilder text = new StringBuilder().append(talker()).append('(');
            int ways = lots.nextInt(50) == 0 ? 1 + 4 * lots.nextInt(2) : 2 + lots.nextInt(lots.nextInt(3) + 1);
            for (int way = 0; way < ways; way++) {
                text.append(way == 0 ? "" : "|").append(items(depth + 1, room - 1));
            }
            return text.append(')').toString();
        }
        if (kind == 0) {
            return "-";
        }
        char from = talker();
        char to = talker();
        while (to == from && lots.nextInt(60) != 0) {
            to = talker();
        }
        return "" + from + '>' + to + word();
    }

    private char talker() {
        return (char) ('A' + lots.nextInt(lots.nextInt(4) == 0 ? 6 : 3));
    }

    private char word() {
        return (char) ('x' + lots.nextInt(3));
    }

    /** Mostly some LOOKS of a TALKER, perhaps cut, with a change here and there. */
    private String program() {
        StringBuilder text = new StringBuilder();
        int talker = lots.nextInt(3);
        programTalker = talker;
        int rows = 1 + lots.nextInt(lots.nextInt(10) == 0 ? 9 : 5);
        for (int row = 0; row < rows; row++) {
            text.append(row == 0 ? "" : "|");
            int history = lots.nextInt(Math.max(1, m.histories()));
            int acts = m.look(talker, history, -1) - (lots.nextInt(5) == 0 ? 1 : 0);
            for (int i = 0; i < acts; i++) {
                int act = m.look(talker, history, i);
                boolean says = act < 20000;
                int other = says ? act / 100 % 10 : act / 1000 % 10;
                char word = lots.nextInt(20) == 0 ? word() : (char) ('a' + act % 100);
                text.append(says ? '!' : '?').append((char) ('A' + other)).append(word);
            }
        }
        if (lots.nextInt(15) == 0) {
            text.setLength(lots.nextInt(text.length() + 1));
        }
        return text.toString();
    }

    private void tell() {
        int bits = lots.nextInt(1 << 30);
        for (int i = lots.nextInt(4); i > 0; i--) {
            bits &= lots.nextInt(1 << 30);
        }
        same("tell(" + bits + ")", x.tell(bits), m.tell(bits));
    }

    /** A number of a thing of which there are so many, seldom one that there is not. */
    private int number(int many) {
        return switch (lots.nextInt(25)) {
            case 0 -> -1;
            case 1 -> many;
            case 2 -> lots.nextInt();
            default -> lots.nextInt(many);
        };
    }

    private int history() {
        return lots.nextInt(10) == 0 ? number(30) : number(Math.max(1, m.histories()));
    }

    private void turn(int call) {
        if (call < 14) {
            planOrLooks(call);
        } else if (call < 21) {
            runOrProgram(call);
        } else if (call < 26) {
            logs(call);
        } else {
            sheets(call);
        }
    }

    private void planOrLooks(int call) {
        int a = history();
        int b = history();
        int i = lots.nextInt(12) - 2;
        int t = number(6);
        int w = number(4);
        switch (call) {
            case 0 -> same("type(" + w + ", " + t + ")", x.type(w, t), m.type(w, t));
            case 1 -> same("fault(" + w + ")", x.fault(w), m.fault(w));
            case 2 -> same("plan(" + w + ")", x.plan(w), m.plan(w));
            case 3 -> tell();
            case 4 -> same("histories()", x.histories(), m.histories());
            case 5, 6 -> same("said(" + a + ", " + i + ")", x.said(a, i), m.said(a, i));
            case 7, 8 -> same("look(" + t + ", " + a + ", " + i + ")", x.look(t, a, i), m.look(t, a, i));
            case 9 -> same("looks(" + t + ")", x.looks(t), m.looks(t));
            case 10 -> same("parts(" + a + ", " + b + ")", x.parts(a, b), m.parts(a, b));
            case 11 -> same("sound()", x.sound(), m.sound());
            case 12 -> same("moment(" + w + ")", x.moment(w), m.moment(w));
            default -> same("mended()", x.mended(), m.mended());
        }
    }

    private void runOrProgram(int call) {
        int h = history();
        int seed = lots.nextInt();
        int i = lots.nextInt(20) - 1;
        int t = lots.nextInt(3) == 0 ? number(6) : lots.nextInt(3);
        int u = lots.nextInt(3) == 0 ? number(6) : lots.nextInt(3);
        int k = lots.nextInt(6) - (lots.nextInt(10) == 0 ? 1 : 0);
        int p = lots.nextInt(4) == 0 ? number(6) : programTalker;
        int w = number(2);
        switch (call) {
            case 14 -> same("run(" + h + ", " + seed + ", " + w + ")", x.run(h, seed, w), m.run(h, seed, w));
            case 15 -> same("step(" + h + ", " + seed + ", " + i + ")", x.step(h, seed, i), m.step(h, seed, i));
            case 16 -> {
                if (m.said(h, -1) <= LONGEST_WORDS) {
                    same("longest(" + h + ", " + t + ", " + u + ")", x.longest(h, t, u), m.longest(h, t, u));
                }
            }
            case 17 -> same("trips(" + h + ", " + w + ")", x.trips(h, w), m.trips(h, w));
            case 18 -> same("lost(" + h + ", " + t + ", " + k + ", " + w + ")", x.lost(h, t, k, w), m.lost(h, t, k, w));
            case 19 -> same("fits(" + p + ")", x.fits(p), m.fits(p));
            default -> same("breach(" + p + ")", x.breach(p), m.breach(p));
        }
    }

    private void logs(int call) {
        int w = number(2);
        switch (call) {
            case 21 -> {
                int s = lots.nextInt(4);
                int h = history();
                same("clear()", x.clear(), m.clear());
                same("sheet", x.sheet(s, 1 + s % 2, 12), m.sheet(s, 1 + s % 2, 12));
                same("write(" + s + ", " + h + ")", x.write(s, h), m.write(s, h));
                for (int swaps = lots.nextInt(3); swaps > 0; swaps--) {
                    int i = lots.nextInt(4);
                    same("copy", x.copy(s, i, s, i + 1, 1), m.copy(s, i, s, i + 1, 1));
                }
                same("log(" + s + ")", x.log(s), m.log(s));
            }
            case 22 -> {
                int s = number(4);
                same("log(" + s + ")", x.log(s), m.log(s));
            }
            case 23 -> {
                int n = number(m.count(3) + 1);
                same("left(" + n + ")", x.left(n), m.left(n));
            }
            case 24 -> same("out(" + w + ")", x.out(w), m.out(w));
            default -> same("ask()", x.ask(), m.ask());
        }
    }

    private void sheets(int call) {
        int s = number(4);
        int t = lots.nextInt(3) == 0 ? s : number(4);
        int f = number(3);
        int i = number(8);
        int j = number(8);
        int n = lots.nextInt(9) - 1;
        int v = lots.nextInt();
        int h = history();
        int w = number(9);
        switch (call) {
            case 26 -> same("sheet(" + s + ", " + f + ", " + n + ")", x.sheet(s, f, n), m.sheet(s, f, n));
            case 27 -> same("lose(" + s + ")", x.lose(s), m.lose(s));
            case 28 -> same("put(" + s + ", " + f + ", " + i + ", " + v + ")", x.put(s, f, i, v), m.put(s, f, i, v));
            case 29 -> same("get(" + s + ", " + f + ", " + i + ")", x.get(s, f, i), m.get(s, f, i));
            case 30 -> same("copy(" + s + ", " + i + ", " + t + ", " + j + ", " + n + ")",
                x.copy(s, i, t, j, n), m.copy(s, i, t, j, n));
            case 31 -> same("write(" + s + ", " + h + ")", x.write(s, h), m.write(s, h));
            case 32 -> same("count(8)", x.count(8), m.count(8));
            default -> same("count(" + w + ")", x.count(w), m.count(w));
        }
    }
}
