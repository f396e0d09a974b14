import java.io.IOException;
import java.math.BigInteger;
import java.util.ArrayDeque;
import java.util.ArrayList;
import java.util.Deque;
import java.util.List;

/** Boundary cases of the promises 15 to 19, and of the terms about RUNS. */
public final class RunsEdgesTest {
    private static final int NONE = -1, BAD = -2, NOT = -3, FULL = -4;
    private static final Edges.State NEW = Edges.State.NEW, FINE = Edges.State.FINE, FAULTY = Edges.State.FAULTY,
        TOO_MUCH = Edges.State.TOO_MUCH;
    private static final int[] SEEDS = {0, 1, -1, 2, 65535, 65536, 0x7fff0000, 0x80000001, Integer.MAX_VALUE,
        Integer.MIN_VALUE, 12345, -12345, 1103515245};
    private static final String[] PLANS = {"A>Bx", "A>Bx,A>Bx,A>Bx", "A>Bx,B>Ax", "A>Bx,C>Dx,E>Fx", "4(3(A>Bx,B>Ay))",
        "4(3(A>Bx,A>Bx))", "A>Bx,B>Cx,C>Dx,D>Ex,E>Fx,F>Ax", "4(A>Bx,C>Bx,D>Ex,E>Fx,F>Ax,B>Cx)", "B>Ax,A>Bx,A>Bx,B>Ax"};
    private static final String THIRTY = "A(-|-|-),A(-|-),A(-|A(-|-|-|A>Bx))";
    private static Edges e;

    public static void main(String[] args) throws IOException {
        e = new Edges();
        queuesInOrder();
        lots();
        untilNoneCan();
        longestOverAllRuns();
        chain();
        packed();
        lostTalker();
        run();
        step();
        longest();
        trips();
        lost();
        e.end("RunsEdgesTest", 15, 19);
    }

    // ---- terms

    /** LOTS by numbers that never wrap, cut to 32 bits afterwards. */
    private static final class Lots {
        private static final BigInteger WRAP = BigInteger.ONE.shiftLeft(32);
        private BigInteger seed;

        Lots(int seed) {
            this.seed = BigInteger.valueOf(seed);
        }

        int of(int many) {
            seed = seed.multiply(BigInteger.valueOf(1103515245)).add(BigInteger.valueOf(12345)).mod(WRAP);
            return seed.shiftRight(16).mod(BigInteger.valueOf(many)).intValue();
        }
    }

    /** A RUN of HISTORY 0 by what look() tells, beside step() and run(). */
    private static void replay(String plan, int seed) {
        OnePlan x = Due.planned(plan);
        Lots lots = new Lots(seed);
        int[] done = new int[6];
        List<Deque<Integer>> queues = new ArrayList<>();
        for (int queue = 0; queue < 60; queue++) {
            queues.add(new ArrayDeque<>());
        }
        int steps = 0;
        int most = 0;
        while (true) {
            List<Integer> able = new ArrayList<>();
            for (int t = 0; t < 6; t++) {
                int act = x.look(t, 0, done[t]);
                Integer first = act < 20000 ? null : queues.get(act % 10000 / 100).peekFirst();
                if (act >= 10000 && act < 20000 || first != null && first == act % 10000) {
                    able.add(t);
                }
            }
            if (able.isEmpty()) {
                break;
            }
            int who = able.get(lots.of(able.size()));
            e.is("step " + steps + " by " + seed + " of " + plan, x.step(0, seed, steps), who);
            int act = x.look(who, 0, done[who]++);
            Deque<Integer> queue = queues.get(act % 10000 / 100);
            if (act < 20000) {
                queue.addLast(act % 10000);
            } else {
                queue.removeFirst();
            }
            most = Math.max(most, queue.size());
            steps++;
        }
        e.is("steps by " + seed + " of " + plan, x.run(0, seed, 0), steps);
        e.is("longest by " + seed + " of " + plan, x.run(0, seed, 1), most);
        e.is("beyond by " + seed + " of " + plan, x.step(0, seed, steps), NONE);
    }

    private static void queuesInOrder() {
        e.terms("RUNS of a HISTORY: each TALKER goes on in its LOOK; what is said goes behind the QUEUE from one to "
            + "the other; what is to be got must be first in it.");
        for (int seed = 0; seed < 20; seed++) {
            replay("A>Ba,A>Bb,C>Ba,A>Bc,B>Ca", seed);
            replay("F>Ea,A>Eb,F>Ec,E>Fd", seed);
        }
    }

    private static void lots() {
        e.terms("BY LOTS: a SEED; a LOT of k: SEED becomes 1103515245 SEED and 12345, as ints that wrap; its upper 16 "
            + "bits as a number from 0 on, modulo k.");
        for (int seed : SEEDS) {
            for (String plan : PLANS) {
                replay(plan, seed);
            }
        }
    }

    private static void untilNoneCan() {
        e.terms("Again and again of those TALKERS that can go on the one by a LOT of how many there are (from 0, in "
            + "order) does its next act, until none can.");
        e.is("none can from the first on", Due.planned("-").run(0, 5, 0), 0);
        for (int seed : SEEDS) {
            e.is("24 words", Due.planned("4(3(A>Bx,C>Dx))").run(0, seed, 0), 48);
            e.is("one word", Due.planned("E>Fx").run(0, seed, 0), 2);
            e.is("who alone can", Due.planned("E>Fx").step(0, seed, 0), 4);
            e.is("who alone can then", Due.planned("E>Fx").step(0, seed, 1), 5);
        }
        e.terms("LONGEST so: the most words in one QUEUE at any time.");
        e.is("of none", Due.planned("-").run(0, 5, 1), 0);
        e.is("of one", Due.planned("A>Bx").run(0, 5, 1), 1);
        OnePlan x = Due.planned("A>Bx,A>Cx,A>Dx,B>Cx,E>Fx"); // each in a QUEUE of its own
        OnePlan two = Due.planned("A>Bx,A>Bx");
        boolean one = false;
        boolean both = false;
        for (int seed = 0; seed < 40; seed++) {
            e.is("QUEUES are not added", x.run(0, seed, 1), 1);
            one |= two.run(0, seed, 1) == 1;
            both |= two.run(0, seed, 1) == 2;
        }
        e.is("one got ahead of the next saying", one ? 1 : 0, 1);
        e.is("both said ahead of any getting", both ? 1 : 0, 1);
    }

    private static void queue(String plan, int from, int to, int want) {
        e.is("longest " + from + " " + to + " of " + plan, Due.planned(plan).longest(0, from, to), want);
    }

    private static void longestOverAllRuns() {
        e.terms("LONGEST of a QUEUE over all RUNS of a HISTORY, with any delays: the most words that can be in it.");
        queue("-", 0, 1, 0);
        queue("A>Bx", 1, 0, 0);
        queue("A>Bx", 0, 1, 1);
        queue("4(3(A>Bx,A>Bx))", 0, 1, 24);
        queue("4(3(A>Bx,B>Ax))", 0, 1, 1);
        queue("4(3(A>Bx,B>Ax))", 1, 0, 1);
        queue("4(3(A>Bx,A>Cx))", 0, 2, 12);
        e.terms("An act must come ahead of another one, if it stands ahead of it in a LOOK, or is the saying of what "
            + "the other one gets, or so through others.");
        queue("A>Bx,B>Ax,A>Bx", 0, 1, 1); // in a LOOK
        queue("A>Bx,C>Ax,A>Bx", 0, 1, 2); // C's word says nothing of B
        queue("A>Bx,B>Cx,C>Ax,A>Bx", 0, 1, 1); // through C
        queue("A>Bx,B>Cx,C>Dx,D>Ex,E>Fx,F>Ax,A>Bx", 0, 1, 1); // through all
        queue("A>Bx,B>Cx,C>Dx,D>Ex,F>Ex,F>Ax,A>Bx", 0, 1, 2); // the chain is broken
        queue("A>Bx,B>Cx,D>Ax,C>Dx,A>Bx", 0, 1, 2); // D says ahead of getting
        queue("A>Bx,A>Bx,B>Ax,A>Bx", 0, 1, 2); // both got ahead of B's word
        queue("A>Bx,B>Ax,A>Bx,A>Bx", 0, 1, 2);
        queue("B>Ax,A>Bx,B>Ax,A>Bx", 0, 1, 1);
        queue("B>Ax,B>Ax,A>Bx,A>Bx", 0, 1, 2); // B's words are said ahead
    }

    private static void chainIs(String plan, int want) {
        e.is("chain of " + plan, Due.planned(plan).trips(0, 0), want);
    }

    private static void chain() {
        e.terms("CHAIN of a HISTORY: the most words, each of which is said by who got the one ahead behind getting "
            + "it.");
        chainIs("-", 0);
        chainIs("A>Bx", 1);
        chainIs("4(3(A>Bx,A>Bx))", 1);
        chainIs("4(3(A>Bx,B>Ax))", 24);
        chainIs("B>Cx,A>Bx", 1); // B says ahead of getting
        chainIs("A>Bx,B>Cx", 2);
        chainIs("A>Bx,A>Cx,B>Dx,C>Dx,D>Ex", 3);
        chainIs("A>Bx,C>Dx,B>Cx,D>Ax,C>Dx", 3); // the longer one of both that C could say
        chainIs("A>Bx,B>Ax,A>Cx,C>Ax,A>Bx,C>Bx", 5);
    }

    private static void packedIs(String plan, int want) {
        e.is("packed of " + plan, Due.planned(plan).trips(0, 1), want);
    }

    private static void packed() {
        e.terms("PACKED: a word can go with the one ahead, if both go from one to the same other one, and neither of "
            + "both does anything between them: how many are left of a HISTORY's words, if all that can go with the "
            + "one ahead do.");
        packedIs("-", 0);
        packedIs("A>Bx", 1);
        packedIs("A>Bx,A>By", 1);
        packedIs("4(3(A>Bx,A>Bx))", 1); // all 24
        packedIs("4(3(A>Bx,B>Ax))", 24); // none of them
        packedIs("A>Bx,A>Cx", 2); // to another one
        packedIs("A>Cx,B>Cx", 2); // from another one
        packedIs("A>Bx,C>Dx,E>Fx,A>Bx", 3); // others may do things between them
        packedIs("A>Bx,A>Cx,A>Bx", 3); // who says does something
        packedIs("A>Bx,C>Ax,A>Bx", 3);
        packedIs("A>Bx,B>Cx,A>Bx", 3); // who gets does something
        packedIs("A>Bx,C>Bx,A>Bx", 3);
    }

    private static void lostTalker() {
        e.terms("LOST: a TALKER does no more than its first k acts in a HISTORY: STUCK are those others that never "
            + "come to the end of their LOOKS; LEFT: words that are said and never got.");
        OnePlan x = Due.planned("A>Bx,B>Cx,A>Bx,B>Ax");
        int[][] ofA = {{6, 0}, {2, 0}, {0, 1}, {0, 0}, {0, 0}}; // A has three acts
        int[][] ofB = {{5, 2}, {5, 1}, {1, 1}, {1, 0}, {0, 0}, {0, 0}}; // B has four acts
        int[][] ofC = {{0, 1}, {0, 0}, {0, 0}}; // C has one act
        for (int k = 0; k < ofA.length; k++) {
            e.is("stuck, A does " + k, x.lost(0, 0, k, 0), ofA[k][0]);
            e.is("left, A does " + k, x.lost(0, 0, k, 1), ofA[k][1]);
        }
        for (int k = 0; k < ofB.length; k++) {
            e.is("stuck, B does " + k, x.lost(0, 1, k, 0), ofB[k][0]);
            e.is("left, B does " + k, x.lost(0, 1, k, 1), ofB[k][1]);
        }
        for (int k = 0; k < ofC.length; k++) {
            e.is("stuck, C does " + k, x.lost(0, 2, k, 0), ofC[k][0]);
            e.is("left, C does " + k, x.lost(0, 2, k, 1), ofC[k][1]);
        }
        e.is("who has no acts", x.lost(0, 5, 0, 0), 0);
        e.is("who has no acts", x.lost(0, 5, 0, 1), 0);
        x = Due.planned("A>Bx,B>Cx,C>Dx,D>Ex,E>Fx");
        e.is("all others", x.lost(0, 0, 0, 0), 62);
        e.is("all others but B", x.lost(0, 0, 1, 0), 0);
        x = Due.planned("4(3(A>Bx,A>Bx))");
        e.is("24 are left", x.lost(0, 1, 0, 1), 24);
        e.is("one is left", x.lost(0, 1, 23, 1), 1);
        e.is("none is left", x.lost(0, 1, 24, 1), 0);
        e.is("none is said", x.lost(0, 0, 0, 1), 0);
        e.is("who says does not wait", x.lost(0, 1, 0, 0), 0);
    }

    // ---- promises

    /** BAD, NOT and FULL of a call about a HISTORY, # being its number. */
    private static void historyOf(String call) {
        e.range(FINE, call, 0, Edges.FINE_HISTORIES - 1);
        e.refused(FINE, call.replace("#", "29"), BAD);
        for (Edges.State state : new Edges.State[] {NEW, FAULTY, TOO_MUCH}) {
            e.range(state, call, 0, 29);
            e.refused(state, call.replace("#", "0"), state == TOO_MUCH ? FULL : NOT);
            e.refused(state, call.replace("#", "29"), state == TOO_MUCH ? FULL : NOT);
        }
        e.is("the last of 30, " + call, Edges.on(Due.planned(THIRTY), call.replace("#", "29")) == BAD ? 1 : 0, 0);
        e.is("beyond 30, " + call, Edges.on(Due.planned(THIRTY), call.replace("#", "30")), BAD);
    }

    private static void run() {
        e.promise(15, "A RUN BY LOTS of a HISTORY: how many STEPS (what = 0), LONGEST so (1). BAD; NOT; FULL.");
        historyOf("run(#, 5, 0)");
        historyOf("run(#, LEAST, 1)");
        for (Edges.State state : Edges.State.values()) {
            e.range(state, "run(0, 5, #)", 0, 1);
            e.range(state, "run(0, MOST, #)", 0, 1);
        }
        e.answers(FINE, "run(0, LEAST, 0)", 6);
        e.answers(FINE, "run(3, MOST, 0)", 2);
        e.answers(FINE, "run(3, MOST, 1)", 1);
    }

    private static void step() {
        e.terms("STEP i (from 0): the TALKER that did it.");
        e.is("the first", Due.planned("F>Ax,A>Bx").step(0, 1, 0), 5);
        e.is("the second", Due.planned("F>Ax,A>Bx").step(0, 1, 1), 0);
        e.is("the third", Due.planned("F>Ax,A>Bx").step(0, 1, 2), 0);
        e.is("the last", Due.planned("F>Ax,A>Bx").step(0, 1, 3), 1);
        e.promise(16, "STEP i of it; NONE beyond. BAD: also i below 0; NOT; FULL.");
        historyOf("step(#, 5, 0)");
        historyOf("step(#, MOST, 99)");
        for (Edges.State state : Edges.State.values()) {
            e.range(state, "step(0, 5, #)", 0, Integer.MAX_VALUE);
        }
        e.answers(FINE, "step(3, 5, 0)", 0);
        e.answers(FINE, "step(3, 5, 1)", 1);
        e.answers(FINE, "step(3, 5, 2)", NONE);
        e.answers(FINE, "step(3, 5, MOST)", NONE);
        e.is("of no steps", Due.planned("-").step(0, 5, 0), NONE);
        OnePlan x = Due.planned("4(3(A>Bx,B>Ax))");
        e.is("the last of 48", x.step(0, 5, 47), 0);
        e.is("beyond 48", x.step(0, 5, 48), NONE);
        e.is("of a shorter one behind a longer one", shorterBehindLonger(), NONE);
    }

    private static int shorterBehindLonger() {
        OnePlan x = FINE.made();
        x.run(0, 5, 0);
        return x.step(3, 5, 2);
    }

    private static void longest() {
        e.promise(17, "LONGEST of the QUEUE from a TALKER to another one. BAD: also the same; NOT; FULL.");
        historyOf("longest(#, 0, 1)");
        for (Edges.State state : Edges.State.values()) {
            e.range(state, "longest(0, #, 1)", 0, 5);
            e.range(state, "longest(0, #, 5)", 0, 4);
            e.range(state, "longest(0, 1, #)", 0, 5);
            e.range(state, "longest(0, 0, #)", 1, 5);
            for (int talker = 0; talker < 6; talker++) {
                e.refused(state, "longest(0, " + talker + ", " + talker + ")", BAD);
            }
        }
        e.answers(FINE, "longest(0, 0, 1)", 2);
        e.answers(FINE, "longest(0, 1, 0)", 1);
        e.answers(FINE, "longest(3, 5, 4)", 0);
    }

    private static void trips() {
        e.promise(18, "CHAIN (what = 0), PACKED (1). BAD; NOT; FULL.");
        historyOf("trips(#, 0)");
        historyOf("trips(#, 1)");
        for (Edges.State state : Edges.State.values()) {
            e.range(state, "trips(0, #)", 0, 1);
        }
        e.answers(FINE, "trips(0, 0)", 2);
        e.answers(FINE, "trips(0, 1)", 2);
        e.answers(FINE, "trips(3, 0)", 1);
    }

    private static void lost() {
        e.promise(19, "LOST: STUCK as bits (what = 0), LEFT (1). BAD: also k below 0; NOT; FULL.");
        historyOf("lost(#, 0, 1, 0)");
        historyOf("lost(#, 5, MOST, 1)");
        for (Edges.State state : Edges.State.values()) {
            e.range(state, "lost(0, #, 0, 0)", 0, 5);
            e.range(state, "lost(0, 0, #, 0)", 0, Integer.MAX_VALUE);
            e.range(state, "lost(0, 0, 0, #)", 0, 1);
        }
        e.answers(FINE, "lost(0, 0, 0, 0)", 2);
        e.answers(FINE, "lost(0, 0, 2, 0)", 0);
        e.answers(FINE, "lost(0, 0, 2, 1)", 1);
        e.answers(FINE, "lost(0, 0, 3, 1)", 0);
        e.answers(FINE, "lost(0, 0, MOST, 1)", 0);
        e.answers(FINE, "lost(2, 2, 0, 1)", 1);
    }
}
