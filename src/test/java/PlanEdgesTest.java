import java.io.IOException;

/** Boundary cases of the promises 1 to 8, and of the terms about the PLAN, HISTORIES and TELLINGS. */
public final class PlanEdgesTest {
    private static final int NONE = -1, BAD = -2, NOT = -3, FULL = -4;
    private static final Edges.State NEW = Edges.State.NEW, FINE = Edges.State.FINE, FAULTY = Edges.State.FAULTY,
        TOO_MUCH = Edges.State.TOO_MUCH;
    private static final String ITEM = "ABCDEF234-";
    private static final String WORDS = "abcdefghijklmnopqrstuvwxyz";
    private static final String WORDS_24 = "4(3(A>Bx,A>Bx))";
    private static final String THIRTY = "A(-|-|-),A(-|-),A(-|A(-|-|-|-))";
    private static Edges e;

    public static void main(String[] args) throws IOException {
        e = new Edges();
        talkersAndWords();
        callsOfAnObject();
        planOf160Bytes();
        itemsAndNothing();
        talkersThatAreUnlike();
        waysOfAChoice();
        figuresOfRounds();
        openBrackets();
        firstByteThatCannotGoOn();
        namedFaults();
        thirtyHistories();
        twentyFourWords();
        orderOfHistories();
        manyChoices();
        usedTalkers();
        bitsOfTellings();
        whoIsTold();
        wordsOfTellings();
        newObject();
        typing();
        noRoom();
        wiping();
        faults();
        plans();
        telling();
        histories();
        said();
        e.end("PlanEdgesTest", 1, 8);
    }

    private static void fault(String text, int want) {
        e.is("fault of " + text, Due.planned(text).fault(0), want);
    }

    private static void histories(String text, int want) {
        e.is("histories of " + text, Due.planned(text).histories(), want);
    }

    // ---- terms

    private static void talkersAndWords() {
        e.terms("TALKERS are A to F (0 to 5), WORDS a to z (0 to 25).");
        fault("@>Bx", 0);
        fault("A>Bx", NONE);
        fault("F>Bx", NONE);
        fault("G>Bx", 0);
        fault("B>@x", 2);
        fault("B>Ax", NONE);
        fault("B>Fx", NONE);
        fault("B>Gx", 2);
        fault("@(-|-)", 0);
        fault("A(-|-)", NONE);
        fault("F(-|-)", NONE);
        fault("G(-|-)", 0);
        fault("A>B`", 3);
        fault("A>Ba", NONE);
        fault("A>Bz", NONE);
        fault("A>B{", 3);
        e.is("A says a", Due.planned("A>Ba").said(0, 0), 100);
        e.is("F says z", Due.planned("F>Az").said(0, 0), 5025);
        e.is("F gets z", Due.planned("A>Fz").said(0, 0), 525);
    }

    private static void callsOfAnObject() {
        e.terms("An object is used for at most 512 calls after it has been made; what later calls answer is free.");
        OnePlan x = Due.planned("A(A>Bx|-)"); // 9 calls
        for (int call = 10; call < 512; call++) {
            e.is("call " + call, x.said(call % 2, NONE), 1 - call % 2);
        }
        e.is("call 512", x.digest(), Due.planned("A(A>Bx|-)").digest());
    }

    private static void planOf160Bytes() {
        e.terms("A PLAN is a text of up to 160 bytes");
        OnePlan x = Due.planned("A>Bx" + ",-".repeat(78));
        e.is("bytes", x.count(0), 160);
        e.is("fault", x.fault(0), NONE);
        e.is("its words", x.said(0, NONE), 1);
        e.is("the 161st byte", x.type(0, ','), FULL);
        e.is("fault behind it", x.fault(0), NONE);
        x = Due.planned("-,".repeat(79) + "A");
        e.is("fault of one of 159 bytes that ends too early", x.fault(0), 159);
        x = Due.planned("-,".repeat(80));
        e.is("fault of one of 160 bytes that ends too early", x.fault(0), 160);
        x = Due.planned("-,".repeat(79) + "-)");
        e.is("fault in the 160th byte", x.fault(0), 159);
        x = Due.planned("2(" + "A>Bx,".repeat(11) + "-)" + ",-".repeat(50) + "-");
        e.is("fault in the 160th byte", x.fault(0), 159);
    }

    private static void itemsAndNothing() {
        e.terms("ITEMS with , between them:");
        fault(",", 0);
        fault("-,,-", 2);
        fault("-,", 2);
        fault("A>BxB>Ax", 4);
        fault("A(-,|-)", 4);
        fault("2(-,)", 4);
        e.terms("- : nothing.");
        histories("-", 1);
        e.is("words", Due.planned("-,-,A>Bx,-").said(0, NONE), 1);
        e.is("an empty WAY", Due.planned("A(-|A>Bx)").said(0, NONE), 0);
    }

    private static void talkersThatAreUnlike() {
        e.terms("A>Bw : A says w to B (unlike TALKERS)");
        for (char from = 'A'; from <= 'F'; from++) {
            for (char to = 'A'; to <= 'F'; to++) {
                fault(from + ">" + to + "w", from == to ? 2 : NONE);
            }
        }
    }

    private static void waysOfAChoice() {
        e.terms("A(..|..) : A chooses one of two to four WAYS, each ITEMS");
        fault("A(-)", 3);
        histories("A(-|-)", 2);
        histories("A(-|-|-)", 3);
        histories("A(-|-|-|-)", 4);
        fault("A(-|-|-|-|-)", 9);
        fault("A(-,-,-|-,-,-)", NONE);
        fault("A(|-)", 2);
        fault("A(-|)", 4);
    }

    private static void figuresOfRounds() {
        e.terms("2(..) : a figure 2 to 4, so many times ITEMS");
        fault("0(-)", 0);
        fault("1(-)", 0);
        for (int times = 2; times <= 4; times++) {
            e.is("words of rounds", Due.planned(times + "(A>Bx)").said(0, NONE), times);
        }
        fault("5(-)", 0);
        fault("9(-)", 0);
        fault("22(-)", 1);
        fault("2()", 2);
        fault("2(-|-)", 3);
        // rounds of nothing
        e.is("words", Due.planned("4(-),A>Bx,2(2(2(-,3(-)))),A>Bx").said(0, NONE), 2);
        histories(WORDS_24 + ",2(-),A>Bx", FULL);
        histories("2(-),3(-),4(-),2(-),3(-),A(2(-)|2(-,2(-))|A(A>Bx|2(-)))", 4);
        e.is("words", Due.planned("2(2(-),A>Bx,2(-),A>Bx,2(-))").said(0, NONE), 4);
    }

    private static void openBrackets() {
        e.terms("No more than four brackets are open at once.");
        fault("2(2(2(2(-))))", NONE);
        fault("2(2(2(2(2(-)))))", 9);
        fault("A(A(A(A(-|-)|-)|-)|-)", NONE);
        fault("A(A(A(A(A(-|-)|-)|-)|-)|-)", 9);
        fault("2(A(2(A(-|-))|-))", NONE);
        fault("2(A(2(A(2(-)|-))|-))", 9);
        fault("2(2(2(2(-),2(-)),2(2(-)))),2(2(2(2(-))))", NONE);
        fault("2(2(2(2(-),2(2(-)))))", 14);
    }

    /** Behind this text each byte of these goes on, or makes it whole; with any other one it cannot go on. */
    private static void next(String text, String goesOn, String makesWhole) {
        for (int b = 0; b <= 255; b++) {
            int want = text.length();
            if (makesWhole.indexOf(b) >= 0) {
                want = NONE;
            } else if (goesOn.indexOf(b) >= 0) {
                want = text.length() + 1;
            }
            OnePlan x = Due.planned(text);
            x.type(0, b);
            e.is("byte " + b + " behind " + text, x.fault(0), want);
        }
    }

    private static void firstByteThatCannotGoOn() {
        e.terms("The FAULT is the place of the first byte with which it cannot go on");
        next("", "ABCDEF234", "-");
        next("A", ">(", "");
        next("A>", "BCDEF", "");
        next("F>", "ABCDE", "");
        next("A>B", "", WORDS);
        next("A>Bx", ",", "");
        next("-", ",", "");
        next("-,", "ABCDEF234", "-");
        next("A(", ITEM, "");
        next("A(-", ",|", "");
        next("A(-|", ITEM, "");
        next("A(-|-", ",|", ")");
        next("A(-|-|-", ",|", ")");
        next("A(-|-|-|-", ",", ")");
        next("A(-|-)", ",", "");
        next("2", "(", "");
        next("2(", ITEM, "");
        next("2(-", ",", ")");
        next("2(-)", ",", "");
        next("2(A(-|-", ",|)", "");
        next("A(2(-", ",)", "");
        next("2(2(2(2(", ITEM, "");
        next("2(2(2(2(A", ">", "");
        next("2(2(2(2(2", "", "");
        next("2(2(2(2(-)", ",)", "");
        fault("A>A,,,((((", 2); // the first one counts
        fault("A(-)|)))", 3);
    }

    private static void namedFaults() {
        e.terms("of an empty text 0;");
        fault("", 0);
        e.terms("of a bracket that would be the fifth that is open: that bracket;");
        fault("2(3(4(A(2(", 9);
        fault("2(3(4(A(B(", 9);
        fault("2(3(4(A(B", 9); // no bracket yet: it only ends too early
        e.terms("of a TALKER that would say something to itself: the second letter;");
        fault("A>A", 2);
        fault("A>Aw", 2);
        fault("-,F>Fw", 4);
        e.terms("of a WAY that would be the fifth: the | ahead of it;");
        fault("A(-|-|-|-|", 9);
        fault("A(-|-|-|-", 9); // ends too early
        fault("B(A(-|-|-|-)|-|-|-|", 18);
        e.terms("of a choice of one WAY: its closing bracket");
        fault("A(-)", 3);
        fault("A(A>Bx,2(-))", 11);
        fault("A(-", 3); // ends too early
    }

    private static void thirtyHistories() {
        e.terms("A PLAN is TOO MUCH, if it has more than 30 HISTORIES");
        histories(THIRTY, 30);
        histories("A(" + THIRTY + "|-)", FULL);
        histories("A(-|" + THIRTY + ")", FULL);
        histories(THIRTY + ",A(-|-)", FULL);
        histories("2(2(A(-|-)))", 16);
        histories("2(2(A(-|-))),A(-|-)", FULL);
        histories("3(A(-|-|-))", 27);
        histories("A(3(A(-|-|-))|-|-|-)", 30);
        histories("A(3(A(-|-|-))|-|-|A(-|-))", FULL);
        // 2^32 and 2^64 and 2^128: no count may wrap around to few
        histories("4(4(A(-|-)),4(A(-|-)))", FULL);
        histories("4(4(A(-|-|-|-)))", FULL);
        histories("4(4(A(-|-|-|-))),4(4(A(-|-|-|-)))", FULL);
        histories("4(4(4(A(-|-|-|-))))", FULL);
        histories("A(4(4(A(-|-|-|-)))|4(4(A(-|-|-|-))))", FULL);
    }

    private static void twentyFourWords() {
        e.terms("or one with more than 24 words.");
        histories(WORDS_24, 1);
        histories(WORDS_24 + ",A>Bx", FULL);
        histories("A>Bx," + WORDS_24, FULL);
        histories("A(" + WORDS_24 + "|" + WORDS_24 + ")", 2);
        histories("A(-|" + WORDS_24 + ",A>Bx)", FULL); // one of them is enough
        histories("A(-|-|-|" + WORDS_24 + ",A>Bx)", FULL);
        histories("A(" + WORDS_24 + ",A>Bx|-)", FULL);
        histories("A(" + WORDS_24 + "|-),A(-|-)", 4);
        histories("A(" + WORDS_24 + "|-),A(-|A>Bx)", FULL);
        histories("A(" + WORDS_24 + "|A>Bx),A(A>Bx|-)", FULL);
        histories("4(4(4(4(A>Bx))))", FULL);
        histories("2(2(2(3(A>Bx))))", 1);
        histories("2(2(2(3(A>Bx)))),A>Bx", FULL);
        e.is("in rounds four deep", Due.planned("2(2(2(3(A>Bx))))").said(0, NONE), 24);
        String words = "A>Bx,".repeat(23) + "A>Bx";
        histories("A(A(A(A(" + words + "|-)|-)|-)|-)", 5);
        histories("A(A(A(A(" + words + ",A>Bx|-)|-)|-)|-)", FULL);
        histories("A(-|A(-|A(-|A(-|" + words + ",A>Bx))))", FULL);
        OnePlan x = Due.planned("A(4(3(A>Bx)),4(2(A>Bx)),3(A>Bx)|-)");
        e.is("the longest of 23", x.said(0, NONE), 23);
        x.tell(2);
        e.is("the longest of 24 with a telling", x.said(0, NONE), 24);
        x.tell(6);
        e.is("25 words with two tellings", x.histories(), FULL);
        x.tell(1);
        e.is("who chooses is not told", x.said(0, NONE), 23);
        x = Due.planned("4(3(A>Bx)),4(2(A>Bx)),3(A>Bx),B(-|-),B(-|-)");
        x.tell(1 << 6);
        e.is("a telling of one choice is none of the choice ahead", x.said(0, NONE), 24);
        x.tell(1 | 1 << 6);
        e.is("one of each", x.histories(), FULL);
    }

    private static void orderOfHistories() {
        e.terms("WAYS being taken at each choice as it is come to (in each round anew); HISTORIES in order: by WAYS, "
            + "the first choice that is come to compared first.");
        OnePlan x = Due.planned("2(A(A>Bx|A>By|-))");
        String[] want = {"xx", "xy", "x", "yx", "yy", "y", "x", "y", ""};
        for (int history = 0; history < want.length; history++) {
            e.is("length of " + history, x.said(history, NONE), want[history].length());
            for (int i = 0; i < want[history].length(); i++) {
                e.is("word " + i + " of " + history, x.said(history, i), 100 + want[history].charAt(i) - 'a');
            }
        }
        x = Due.planned("A(A>Ba,A(A>Bb|A>Bc)|A>Bd),A(A>Be|A>Bf)");
        String[] nested = {"abe", "abf", "ace", "acf", "de", "df"};
        e.is("histories", x.histories(), nested.length);
        for (int history = 0; history < nested.length; history++) {
            e.is("last of " + history, x.said(history, nested[history].length()), NONE);
            for (int i = 0; i < nested[history].length(); i++) {
                e.is("word " + i + " of " + history, x.said(history, i), 100 + nested[history].charAt(i) - 'a');
            }
        }
    }

    /** 27 choices in one: four WAYS, three of them with seven choices, the last one with five. */
    private static void manyChoices() {
        e.terms("A HISTORY is a row of what is said, WAYS being taken at each choice as it is come to");
        String last = "A(A(A(A>Ba|A>Bb)|A(A>Bc|A>Bd))|A(A>Be|A>Bf))";
        OnePlan x = Due.planned("A(" + (tree(3) + "|").repeat(3) + last + ")");
        e.is("bytes", x.count(0), 158);
        e.is("choices", x.plan(0), 27);
        e.is("histories", x.histories(), 30);
        for (int history = 0; history < 30; history++) {
            e.is("word of " + history, x.said(history, 0), history < 24 ? NONE : 100 + history - 24);
        }
        e.is("parts the last two", x.parts(28, 29), 0);
    }

    private static void usedTalkers() {
        e.terms("USED are TALKERS that say, get or choose something in the text.");
        e.is("none", Due.planned("-").plan(1), 0);
        e.is("who says and gets", Due.planned("A>Fx").plan(1), 1 + 32);
        e.is("who chooses", Due.planned("D(-|-)").plan(1), 8);
        e.is("all", Due.planned("A>Bx,C>Dx,E(-|F(-|-))").plan(1), 63);
        OnePlan x = Due.planned("A(A>Bx|-)");
        x.tell(62);
        e.is("who is told is not in the text", x.plan(1), 3);
    }

    /** Five choices: A 0, B 1, C 2, D 3, E 4; six HISTORIES. */
    private static void bitsOfTellings() {
        e.terms("TELLINGS are set by bits: 6 times the number of a choice in the text (from 0, by its bracket) and a "
            + "TALKER");
        int[][] ways = {{0, 0, 0, 1, 1, 1}, {0, 0, 1, NONE, NONE, NONE}, {0, 1, NONE, NONE, NONE, NONE},
            {NONE, NONE, NONE, 0, 0, 1}, {NONE, NONE, NONE, 0, 1, NONE}};
        OnePlan x = Due.planned("A(B(C(-|-)|-)|D(E(-|-)|-))");
        e.is("histories", x.histories(), 6);
        for (int bit = 0; bit < 30; bit++) {
            x.tell(1 << bit);
            int choice = bit / 6;
            int talker = bit % 6;
            for (int history = 0; history < 6; history++) {
                boolean told = talker != choice && ways[choice][history] != NONE;
                int code = 1000 * choice + 100 * talker + 26 + ways[choice][history];
                e.is("bit " + bit + " in " + history, x.said(history, 0), told ? code : NONE);
                e.is("bit " + bit + " in " + history + ", no more", x.said(history, 1), NONE);
            }
        }
        e.terms("No more than five choices can have any.");
        x = Due.planned("A(A(A(A(-|-)|-)|-)|A(A(A>Bx|A>By)|-))");
        e.is("choices", x.plan(0), 6);
        e.is("the sixth is come to", x.said(4, 0), 123);
        x.tell((1 << 30) - 1);
        e.is("tellings of the first and the fifth, and the word", x.said(4, NONE), 5 + 5 + 1);
        e.is("of the sixth none", x.said(4, 10), 123);
        e.is("of the sixth none", x.said(5, 10), 124);
        // of seven, the last HISTORY coming to all of them
        x = Due.planned("A(-|A(-|A(-|A(-|-)))),A(-|A(-|A(A>Bx|-)))");
        e.is("choices", x.plan(0), 7);
        int last = x.histories() - 1;
        for (int bit = 0; bit < 30; bit++) {
            x.tell(1 << bit);
            e.is("one telling by bit " + bit, x.said(last, NONE), bit % 6 == 0 ? 0 : 1);
        }
    }

    private static void whoIsTold() {
        e.terms("with it, whenever that choice is come to, who chooses tells that TALKER (if it is another one) which "
            + "WAY it takes, ahead of all in the WAY, in order of TALKERS: a word of its own for each WAY.");
        OnePlan x = Due.planned("A>Bx,C(A>Bx|A>By|-|C>Az),A>Bx");
        x.tell(63);
        for (int way = 0; way < 4; way++) {
            int[] want = {123, 2026 + way, 2126 + way, 2326 + way, 2426 + way, 2526 + way};
            for (int i = 0; i < want.length; i++) {
                e.is("way " + way + ", word " + i, x.said(way, i), want[i]);
            }
        }
        e.is("behind the tellings", x.said(3, 6), 2025);
        e.is("behind an empty WAY", x.said(2, 6), 123);
        x = Due.planned("2(A(-|-))");
        x.tell(2);
        int[][] rounds = {{126, 126}, {126, 127}, {127, 126}, {127, 127}};
        for (int history = 0; history < 4; history++) {
            e.is("round 0 of " + history, x.said(history, 0), rounds[history][0]);
            e.is("round 1 of " + history, x.said(history, 1), rounds[history][1]);
        }
    }

    private static void wordsOfTellings() {
        e.terms("(These are no words of the text; they count as words of HISTORIES.)");
        OnePlan x = Due.planned("A(A>Bx|-)");
        x.tell(62);
        e.is("words of the text", x.plan(2), 1);
        e.is("words of the history", x.said(0, NONE), 6);
        e.is("words of the other one", x.said(1, NONE), 5);
    }

    // ---- promises

    private static void newObject() {
        e.promise(1, "No bytes, no TELLINGS, an empty LOG; all SHEETS are LOST.");
        for (String call : "count(0) count(1) count(2) count(3) count(8) wipe(0) wipe(1) tell(7) clear()".split(" ")) {
            e.answers(NEW, call, 0);
        }
        for (int s = 0; s < 4; s++) {
            e.found(NEW, "lose(" + s + ")", -11);
        }
        e.is("the constants", 1000 * OnePlan.NONE + 100 * OnePlan.BAD + 10 * OnePlan.NOT + OnePlan.FULL, -1234);
        OnePlan x = FINE.made();
        e.is("one object is not another one", x.count(0) + NEW.made().count(0), Edges.FINE_PLAN.length());
    }

    private static void typing() {
        e.promise(2, "A byte (0 to 255) comes behind the PLAN (text = 0), the PROGRAM (1): how many. BAD;");
        for (Edges.State state : Edges.State.values()) {
            e.range(state, "type(0, #)", 0, 255);
            e.range(state, "type(1, #)", 0, 255);
            e.range(state, "type(#, 65)", 0, 1);
        }
        e.answers(NEW, "type(0, 255)", 1);
        e.answers(FINE, "type(0, 0)", Edges.FINE_PLAN.length() + 1);
        e.answers(FINE, "type(1, 255)", 11);
        OnePlan x = new OnePlan();
        x.type(1, '!');
        e.is("the PLAN has its own bytes", x.type(0, '-'), 1);
        e.is("and its own FAULT", x.fault(0), NONE);
        e.is("as the PROGRAM", x.fault(1), 1);
    }

    private static void noRoom() {
        e.promise(2, "BAD; FULL: there is no room.");
        for (int text = 0; text < 2; text++) {
            int room = text == 0 ? 160 : 80;
            String bytes = text == 0 ? "A>Bx" + ",-".repeat(78) : "?Bx".repeat(26) + "||";
            OnePlan x = FINE.made();
            x.wipe(text);
            Due.type(x, text, bytes.substring(0, room - 1));
            e.is("the last that has room", x.type(text, bytes.charAt(room - 1)), room);
            OnePlan twin = FINE.made();
            twin.wipe(text);
            Due.type(twin, text, bytes);
            e.is("the first that has none", x.type(text, ','), FULL);
            e.is("the next", x.type(text, 0), FULL);
            e.is("BAD is ahead of FULL", x.type(text, 256), BAD);
            e.is("BAD is ahead of FULL", x.type(text, -1), BAD);
            e.is("the other text has room", x.type(1 - text, ','), twin.type(1 - text, ','));
            e.alike("FULL text " + text, x, twin);
            x = NEW.made();
            Due.type(x, text, bytes);
            e.is("how many it had", x.wipe(text), room);
            e.is("room again", x.type(text, '-'), 1);
        }
    }

    private static void wiping() {
        e.promise(3, "A text is empty (TELLINGS go with the PLAN's): how many bytes it had. BAD.");
        e.range(FINE, "wipe(#)", 0, 1);
        e.range(NEW, "wipe(#)", 0, 1);
        e.range(FAULTY, "wipe(#)", 0, 1);
        e.answers(FAULTY, "wipe(0)", Edges.FINE_PLAN.length() + 1);
        e.answers(FINE, "wipe(1)", 10);
        OnePlan x = FINE.made();
        x.wipe(1);
        e.is("an empty PROGRAM has no FAULT", x.fault(1), NONE);
        e.is("TELLINGS stay without the PROGRAM", x.count(2), 2);
        e.is("bytes of the PLAN stay", x.count(0), Edges.FINE_PLAN.length());
        x = FINE.made();
        x.wipe(0);
        e.is("an empty PLAN has a FAULT", x.fault(0), 0);
        e.is("TELLINGS go", x.count(2), 0);
        e.is("bytes of the PROGRAM stay", x.count(1), 10);
        e.is("the LOG stays", x.count(3), 3);
        e.is("SHEETS stay", x.get(2, 2, 1), 9);
        e.is("the FINDING stays", x.count(8), 3);
        e.is("none the second time", x.wipe(0), 0);
        x.tell(5);
        e.is("of an empty PLAN", x.wipe(0), 0);
        e.is("TELLINGS go with an empty PLAN's, too", x.count(2), 0);
    }

    private static void faults() {
        e.promise(4, "The FAULT of a text; NONE. BAD.");
        for (Edges.State state : Edges.State.values()) {
            e.range(state, "fault(#)", 0, 1);
        }
        e.answers(NEW, "fault(0)", 0);
        e.answers(NEW, "fault(1)", NONE);
        e.answers(FINE, "fault(0)", NONE);
        e.answers(FAULTY, "fault(0)", Edges.FINE_PLAN.length() + 1);
        e.answers(TOO_MUCH, "fault(0)", NONE);
    }

    private static void plans() {
        e.promise(5, "Of the PLAN: 0 choices in the text, 1 USED TALKERS (bits), 2 words in the text. BAD; NOT.");
        for (Edges.State state : Edges.State.values()) {
            e.range(state, "plan(#)", 0, 2);
        }
        for (int what = 0; what < 3; what++) {
            e.refused(NEW, "plan(" + what + ")", NOT);
            e.refused(FAULTY, "plan(" + what + ")", NOT);
            e.answers(FINE, "plan(" + what + ")", new int[] {2, 7, 4}[what]);
            e.answers(TOO_MUCH, "plan(" + what + ")", new int[] {0, 3, 1}[what]);
            e.is("of nothing", Due.planned("-").plan(what), 0);
        }
        OnePlan x = Due.planned("A(A(A(A(-|-)|-)|-)|-)" + ",A(-|-)".repeat(19) + ",A>Bx");
        e.is("bytes", x.count(0), 159);
        e.is("many choices", x.plan(0), 23);
        x = Due.planned("A>Bx,".repeat(31) + "A>Bx");
        e.is("bytes", x.count(0), 159);
        e.is("many words", x.plan(2), 32);
        e.is("rounds don't count", Due.planned("4(4(A>Bx))").plan(2), 1);
        x = Due.planned(tree(4) + "," + tree(4) + ",F(-|-)");
        e.is("bytes", x.count(0), 160);
        e.is("the most choices that have room", x.plan(0), 31);
        e.is("the last of them", x.plan(1), 1 + 32);
    }

    private static String tree(int depth) {
        return depth == 0 ? "-" : "A(" + tree(depth - 1) + "|" + tree(depth - 1) + ")";
    }

    private static void telling() {
        e.promise(6, "TELLINGS (bits 0 to 29): what they were. BAD.");
        for (Edges.State state : Edges.State.values()) {
            e.range(state, "tell(#)", 0, (1 << 30) - 1);
            e.answers(state, "tell(0)", state == NEW ? 0 : 2);
        }
        OnePlan x = new OnePlan();
        for (int bit = 0; bit < 30; bit++) {
            e.is("what they were, " + bit, x.tell(1 << bit), bit == 0 ? 0 : 1 << bit - 1);
            e.is("bit " + bit, x.count(2), 1 << bit);
        }
        e.is("bit 30", x.tell(1 << 30), BAD);
        e.is("bit 31", x.tell(1 << 31), BAD);
        e.is("bits 0 and 30", x.tell(1 | 1 << 30), BAD);
        e.is("they stay", x.tell(0), 1 << 29);
    }

    private static void histories() {
        e.promise(7, "How many HISTORIES. NOT; FULL.");
        e.refused(NEW, "histories()", NOT);
        e.refused(FAULTY, "histories()", NOT);
        e.refused(TOO_MUCH, "histories()", FULL);
        e.answers(FINE, "histories()", 4);
        histories("-", 1);
        histories("A(-|-)", 2); // unlike by WAYS, though nothing is said
        histories(THIRTY, 30);
        OnePlan x = Due.planned("2(4(4(A>Bx)))");
        x.type(0, ',');
        e.is("a FAULT is ahead of TOO MUCH", x.histories(), NOT);
        x.wipe(0);
        x.type(0, '-');
        e.is("TOO MUCH no more", x.histories(), 1);
    }

    private static void said() {
        e.promise(8, "Of a HISTORY: how many words (i = NONE), the CODE of word i; NONE beyond.");
        e.answers(FINE, "said(0, NONE)", 3);
        int[] words = {126, 123, 1024, NONE, NONE};
        for (int i = 0; i < words.length; i++) {
            e.answers(FINE, "said(0, " + i + ")", words[i]);
        }
        e.answers(FINE, "said(0, MOST)", NONE);
        e.refused(FINE, "said(0, -2)", BAD);
        e.refused(FINE, "said(0, LEAST)", BAD);
        e.is("nothing is said", Due.planned("-").said(0, NONE), 0);
        e.is("nothing is said", Due.planned("-").said(0, 0), NONE);
        OnePlan x = Due.planned(WORDS_24);
        e.is("24 words", x.said(0, NONE), 24);
        e.is("the last of 24", x.said(0, 23), 123);
        e.is("beyond 24", x.said(0, 24), NONE);
        x = Due.planned("A(" + WORDS_24 + "|-)");
        e.is("beyond 24 of the first", x.said(0, 24), NONE);
        e.is("beyond none of the second", x.said(1, 0), NONE);
        e.promise(8, "BAD: no such HISTORY; NOT; FULL.");
        e.range(FINE, "said(#, NONE)", 0, Edges.FINE_HISTORIES - 1);
        e.range(FINE, "said(#, 0)", 0, Edges.FINE_HISTORIES - 1);
        e.refused(FINE, "said(29, 0)", BAD);
        e.is("the last of 30", Due.planned(THIRTY).said(29, NONE), 0);
        e.is("beyond 30", Due.planned(THIRTY).said(30, NONE), BAD);
        e.refused(NEW, "said(0, 0)", NOT);
        e.range(FAULTY, "said(#, 0)", 0, 29);
        e.range(TOO_MUCH, "said(#, 0)", 0, 29);
        e.refused(FAULTY, "said(29, NONE)", NOT);
        e.refused(TOO_MUCH, "said(29, NONE)", FULL);
    }
}
