/** Promises 15 to 19: runs. */
public final class RunsTest {
    private static final int NONE = -1, BAD = -2, NOT = -3, FULL = -4;
    private static final Due due = new Due();

    public static void main(String[] args) {
        lots();
        runAndStep();
        longest();
        chain();
        packed();
        lost();
        wrongNumbers();
        refusals("A>Bx,", NOT);
        refusals("2(4(4(A>Bx)))", FULL);
        due.end("RunsTest");
    }

    /** With one TALKER that only says to five that only get, each LOT can be told by hand. */
    private static void lots() {
        OnePlan x = Due.planned("A>Bx,A>Cx,A>Dx,A>Ex,A>Fx");
        int[] seeds = {0, 1, -1, 5, 12345, Integer.MIN_VALUE, Integer.MAX_VALUE};
        for (int seed : seeds) {
            int lot = seed;
            int saidUpTo = 0;
            boolean[] got = new boolean[6];
            for (int i = 0; i < 10; i++) {
                java.util.List<Integer> able = new java.util.ArrayList<>();
                if (saidUpTo < 5) {
                    able.add(0);
                }
                for (int t = 1; t <= saidUpTo; t++) {
                    if (!got[t]) {
                        able.add(t);
                    }
                }
                lot = lot * 1103515245 + 12345;
                int who = able.get((lot >>> 16) % able.size());
                due.is("step " + i + " by " + seed, x.step(0, seed, i), who);
                if (who == 0) {
                    saidUpTo++;
                } else {
                    got[who] = true;
                }
            }
            due.is("step 10 by " + seed, x.step(0, seed, 10), NONE);
            due.is("steps by " + seed, x.run(0, seed, 0), 10);
            due.is("longest by " + seed, x.run(0, seed, 1), 1);
        }
    }

    private static void runAndStep() {
        OnePlan x = Due.planned("A>Bx,A>Bx,A>Bx,B>Ax,A>Bx");
        int least = 9;
        int most = 0;
        for (int seed = 0; seed < 60; seed++) {
            int longest = x.run(0, seed, 1);
            least = Math.min(least, longest);
            most = Math.max(most, longest);
        }
        due.is("least of the longest", least, 1);
        due.is("most of the longest", most, 3);
        due.is("steps", x.run(0, 3, 0), 10);
        due.is("the first step is A's", x.step(0, 77, 0), 0);
        due.is("the last step is B's", x.step(0, 77, 9), 1);
        Due.retype(x, 0, "-");
        due.is("no steps", x.run(0, 3, 0), 0);
        due.is("no queue", x.run(0, 3, 1), 0);
        due.is("no step", x.step(0, 3, 0), NONE);
    }

    private static void longest() {
        OnePlan x = Due.planned("A>Bx,A>Bx,A>Bx,B>Ax,A>Bx,A>Bx");
        due.is("longest A to B", x.longest(0, 0, 1), 3);
        due.is("longest B to A", x.longest(0, 1, 0), 1);
        due.is("longest A to C", x.longest(0, 0, 2), 0);
        // the answer comes through a third one
        Due.retype(x, 0, "A>Bx,A>Bx,B>Cx,C>Ax,A>Bx,A>Bx,A>Bx");
        due.is("longest through C", x.longest(0, 0, 1), 3);
        // B's word does not come from getting all
        Due.retype(x, 0, "B>Ax,A>Bx,A>Bx,B>Ax,A>Bx");
        due.is("longest", x.longest(0, 0, 1), 2);
        Due.retype(x, 0, "A>Bx,C>Ax,A>Bx,A>Bx,C>Bx,A>Bx");
        due.is("nobody waits for B", x.longest(0, 0, 1), 4);
        Due.retype(x, 0, "4(A>Bx,A>Cx)");
        due.is("all at once", x.longest(0, 0, 2), 4);
    }

    private static void chainIs(String text, int want) {
        due.is("chain of " + text, Due.planned(text).trips(0, 0), want);
    }

    private static void chain() {
        chainIs("-", 0);
        chainIs("A>Bx", 1);
        chainIs("A>Bx,A>Bx", 1);
        chainIs("A>Bx,B>Cx,C>Dx,D>Ex,E>Fx,F>Ax", 6);
        chainIs("F>Ax,E>Fx,D>Ex,C>Dx,B>Cx,A>Bx", 2);
        chainIs("A>Bx,C>Dx,B>Cx,C>Bx", 3);
        chainIs("B>Cx,A>Bx", 1);
        chainIs("4(A>Bx,B>Ax)", 8);
    }

    private static void packedIs(String text, int want) {
        due.is("packed of " + text, Due.planned(text).trips(0, 1), want);
    }

    private static void packed() {
        packedIs("-", 0);
        packedIs("A>Bx", 1);
        packedIs("A>Bx,A>By,A>Bz", 1);
        packedIs("A>Bx,B>Ax,A>Bx", 3);
        packedIs("A>Bx,C>Dx,A>Bx", 2);
        packedIs("A>Bx,A>Cx,A>Bx", 3);
        packedIs("A>Bx,C>Bx,A>Bx", 3);
        packedIs("A>Bx,C>Dx,A>Bx,C>Dx,E>Fx,A>Bx,C>Dx", 3);
        OnePlan x = Due.planned("A(A>Bx|A>Bx)");
        x.tell(2);
        due.is("a telling goes with the word", x.trips(0, 1), 1);
        due.is("chain of both", x.trips(1, 0), 1);
    }

    private static void lost() {
        OnePlan x = Due.planned("A>Bx,A>Cx,B>Cy,C>Dz,E>Fx,D>Av");
        due.is("A does nothing", x.lost(0, 0, 0, 0), 2 + 4 + 8);
        due.is("A does nothing: left", x.lost(0, 0, 0, 1), 0);
        due.is("A says one", x.lost(0, 0, 1, 0), 4 + 8);
        due.is("A says one: left", x.lost(0, 0, 1, 1), 1);
        due.is("A says both", x.lost(0, 0, 2, 0), 0);
        due.is("A says both: left", x.lost(0, 0, 2, 1), 1);
        due.is("A does all", x.lost(0, 0, 3, 0), 0);
        due.is("A does all: left", x.lost(0, 0, 3, 1), 0);
        due.is("A does more than all", x.lost(0, 0, Integer.MAX_VALUE, 1), 0);
        due.is("C does nothing", x.lost(0, 2, 0, 0), 1 + 8);
        due.is("C does nothing: left", x.lost(0, 2, 0, 1), 2);
        due.is("F does nothing", x.lost(0, 5, 0, 0), 0);
        due.is("F does nothing: left", x.lost(0, 5, 0, 1), 1);
        due.is("E does nothing", x.lost(0, 4, 0, 0), 32);
        due.is("E does nothing: left", x.lost(0, 4, 0, 1), 0);
    }

    private static void wrongNumbers() {
        OnePlan x = Due.planned("A(A>Bx|-)");
        due.is("run(2, ..)", x.run(2, 0, 0), BAD);
        due.is("run(30, ..)", x.run(30, 0, 0), BAD);
        due.is("run(.., 2)", x.run(0, 0, 2), BAD);
        due.is("run(.., -1)", x.run(0, 0, -1), BAD);
        due.is("step(2, ..)", x.step(2, 0, 0), BAD);
        due.is("step(.., -1)", x.step(0, 0, -1), BAD);
        due.is("longest(2, ..)", x.longest(2, 0, 1), BAD);
        due.is("longest(.., 0, 0)", x.longest(0, 0, 0), BAD);
        due.is("longest(.., 6, 0)", x.longest(0, 6, 0), BAD);
        due.is("longest(.., 0, -1)", x.longest(0, 0, -1), BAD);
        due.is("trips(2, ..)", x.trips(2, 0), BAD);
        due.is("trips(.., 2)", x.trips(0, 2), BAD);
        due.is("lost(2, ..)", x.lost(2, 0, 0, 0), BAD);
        due.is("lost(.., 6, ..)", x.lost(0, 6, 0, 0), BAD);
        due.is("lost(.., -1, ..)", x.lost(0, 0, -1, 0), BAD);
        due.is("lost(.., 2)", x.lost(0, 0, 0, 2), BAD);
    }

    private static void refusals(String text, int want) {
        OnePlan x = Due.planned(text);
        due.is("run of " + text, x.run(29, 0, 0), want);
        due.is("step of " + text, x.step(29, 0, 0), want);
        due.is("longest of " + text, x.longest(29, 0, 1), want);
        due.is("trips of " + text, x.trips(29, 0), want);
        due.is("lost of " + text, x.lost(29, 0, 0, 0), want);
        due.is("run, BAD first", x.run(30, 0, 0), BAD);
        due.is("step, BAD first", x.step(0, 0, -1), BAD);
        due.is("longest, BAD first", x.longest(0, 1, 1), BAD);
        due.is("trips, BAD first", x.trips(0, -1), BAD);
        due.is("lost, BAD first", x.lost(0, 0, -1, 0), BAD);
    }
}
