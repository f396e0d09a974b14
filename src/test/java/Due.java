/** What all tests of the project share: it prints each answer that is not the one due, and counts. */
final class Due {
    private int calls;
    private int wrong;

    void is(String call, long got, long want) {
        calls++;
        if (got != want) {
            wrong++;
            System.out.println(call + " answered " + got + ", due is " + want);
        }
    }

    int wrong() {
        return wrong;
    }

    /** The test ends here: exit code 1, if an answer was wrong. */
    void end(String name) {
        System.out.println(name + ": " + calls + " answers, " + wrong + " not as due");
        if (wrong != 0 || calls == 0) {
            System.exit(1);
        }
    }

    static void type(OnePlan x, int text, String bytes) {
        for (int i = 0; i < bytes.length(); i++) {
            x.type(text, bytes.charAt(i));
        }
    }

    static void retype(OnePlan x, int text, String bytes) {
        x.wipe(text);
        type(x, text, bytes);
    }

    static OnePlan planned(String bytes) {
        OnePlan x = new OnePlan();
        type(x, 0, bytes);
        return x;
    }

    /** A SHEET of ints becomes these, and comes behind the LOG: how many came. */
    static int log(OnePlan x, int... codes) {
        x.sheet(3, 2, codes.length);
        for (int i = 0; i < codes.length; i++) {
            x.put(3, 2, i, codes[i]);
        }
        return x.log(3);
    }
}
