/**
 * Talkers from one plan: who says what to whom, written once as a text, and what can be known of it.
 * The document's numbered promises say what each call answers; README.md tells how to use the class.
 */
public final class OnePlan {
    public static final int NONE = -1, BAD = -2, NOT = -3, FULL = -4;

    private static final int TALKERS = 6;
    private static final int ALL_TALKERS = (1 << TALKERS) - 1;
    private static final int LETTERS = 26;
    private static final int PLAN_ROOM = 160;
    private static final int PROGRAM_ROOM = 80;
    private static final int MOST_OPEN = 4;
    private static final int MOST_WAYS = 4;
    /** Each choice takes at least five bytes of its own, so that no PLAN has as many as this. */
    private static final int CHOICE_ROOM = 40;
    private static final int MOST_HISTORIES = 30;
    private static final int MOST_WORDS = 24;
    private static final int MOST_ROWS = 8;
    private static final int TELLING_CHOICES = 5;
    private static final int ALL_TELLINGS = (1 << 30) - 1;
    private static final int MOST_CANDIDATES = 6;
    private static final int LOG_ROOM = 40;
    private static final int MOST_WORD_NUMBER = 29;
    private static final int SHEETS = 4;
    private static final int FORMS = 3;
    private static final int SHEET_ROOM = 60;
    private static final int LEAST_INT = -2147483648;
    /** Far above the steps of any HISTORY: it is there so that the loop's end can be seen. */
    private static final int MANY_STEPS = 1000000;

    private static final int SAYS = 10000;
    private static final int GETS = 20000;

    private static final int SAY = 0;
    private static final int CHOOSE = 1;
    private static final int NEXT_WAY = 2;
    private static final int END_CHOICE = 3;
    private static final int REPEAT = 4;
    private static final int END_REPEAT = 5;

    private static final int FINE = 0;
    private static final int NULL = 1;
    private static final int INDEX = 2;
    private static final int CAST = 3;
    private static final int STORE = 4;
    private static final int SIZE = 5;

    private final Text planText = new Text(PLAN_ROOM);
    private final Text programText = new Text(PROGRAM_ROOM);
    private final Steps steps = new Steps();
    private final PlanReader reader = new PlanReader(planText, steps);
    private final Histories set = new Histories(steps);
    private final Looks view = new Looks(set);
    private final Knowing knowing = new Knowing(steps, set, view);
    private final Runs runs = new Runs(set);
    private final Program program = new Program(programText, set, view);
    private final Border border = new Border(set);
    private final Sheets sheets = new Sheets();
    private int tellings;
    private int finding;

    public OnePlan() {
        tellings = 0;
        finding = 0;
    }

    // ---- the plan

    public int type(int text, int b) {
        if (text < 0 || text > 1 || b < 0 || b > 255) {
            return BAD;
        }
        Text typed = text == 0 ? planText : programText;
        return typed.append(b) ? typed.length() : FULL;
    }

    public int wipe(int text) {
        if (text < 0 || text > 1) {
            return BAD;
        }
        if (text == 1) {
            return programText.empty();
        }
        tellings = 0;
        return planText.empty();
    }

    public int fault(int text) {
        if (text < 0 || text > 1) {
            return BAD;
        }
        return text == 0 ? reader.firstFault() : program.firstFault();
    }

    public int plan(int what) {
        if (what < 0 || what > 2) {
            return BAD;
        }
        if (reader.firstFault() != NONE) {
            return NOT;
        }
        if (what == 0) {
            return steps.choices();
        }
        return what == 1 ? reader.used() : reader.sayings();
    }

    public int tell(int bits) {
        if (bits < 0 || bits > ALL_TELLINGS) {
            return BAD;
        }
        int before = tellings;
        tellings = bits;
        return before;
    }

    public int histories() {
        int why = hindrance(0);
        return why != FINE ? why : set.size();
    }

    public int said(int history, int i) {
        if (!isHistory(history) || i < NONE) {
            return BAD;
        }
        int why = hindrance(history);
        if (why != FINE) {
            return why;
        }
        if (i == NONE) {
            return set.length(history);
        }
        return i < set.length(history) ? set.word(history, i) : NONE;
    }

    // ---- looks

    public int look(int talker, int history, int i) {
        if (!isTalker(talker) || !isHistory(history) || i < NONE) {
            return BAD;
        }
        int why = hindrance(history);
        if (why != FINE) {
            return why;
        }
        view.load(talker);
        if (i == NONE) {
            return view.length(history);
        }
        return i < view.length(history) ? view.act(history, i) : NONE;
    }

    public int looks(int talker) {
        if (!isTalker(talker)) {
            return BAD;
        }
        int why = hindrance(0);
        if (why != FINE) {
            return why;
        }
        view.load(talker);
        return view.unlike(set.all());
    }

    public int parts(int a, int b) {
        if (!isHistory(a) || !isHistory(b) || a == b) {
            return BAD;
        }
        int why = hindrance(Math.max(a, b));
        return why != FINE ? why : set.parter(a, b);
    }

    public int sound() {
        int why = hindrance(0);
        return why != FINE ? why : knowing.soundness();
    }

    public int moment(int what) {
        if (what < 0 || what > 3) {
            return BAD;
        }
        int why = hindrance(0);
        return why != FINE ? why : knowing.momentPart(what);
    }

    public int mended() {
        return reader.firstFault() != NONE ? NOT : knowing.fewestTellings(reader.used());
    }

    // ---- runs

    public int run(int history, int seed, int what) {
        if (!isHistory(history) || what < 0 || what > 1) {
            return BAD;
        }
        int why = hindrance(history);
        if (why != FINE) {
            return why;
        }
        runs.goByLots(history, seed);
        return what == 0 ? runs.stepCount() : runs.longestQueue();
    }

    public int step(int history, int seed, int i) {
        if (!isHistory(history) || i < 0) {
            return BAD;
        }
        int why = hindrance(history);
        if (why != FINE) {
            return why;
        }
        runs.goByLots(history, seed);
        return i < runs.stepCount() ? runs.stepper(i) : NONE;
    }

    public int longest(int history, int from, int to) {
        if (!isHistory(history) || !isTalker(from) || !isTalker(to) || from == to) {
            return BAD;
        }
        int why = hindrance(history);
        return why != FINE ? why : runs.longestEver(history, from, to);
    }

    public int trips(int history, int what) {
        if (!isHistory(history) || what < 0 || what > 1) {
            return BAD;
        }
        int why = hindrance(history);
        if (why != FINE) {
            return why;
        }
        return what == 0 ? runs.chain(history) : runs.packed(history);
    }

    public int lost(int history, int talker, int k, int what) {
        if (!isHistory(history) || !isTalker(talker) || k < 0 || what < 0 || what > 1) {
            return BAD;
        }
        int why = hindrance(history);
        if (why != FINE) {
            return why;
        }
        runs.goWithLost(history, talker, k);
        return what == 0 ? runs.stuck() : runs.neverGot();
    }

    // ---- programs

    public int fits(int talker) {
        if (!isTalker(talker)) {
            return BAD;
        }
        int why = program.firstFault() != NONE ? NOT : hindrance(0);
        if (why != FINE) {
            return why;
        }
        return program.firstBreach(talker) == NONE ? 1 : 0;
    }

    public int breach(int talker) {
        if (!isTalker(talker)) {
            return BAD;
        }
        int why = program.firstFault() != NONE ? NOT : hindrance(0);
        return why != FINE ? why : program.firstBreach(talker);
    }

    // ---- logs

    public int log(int s) {
        if (!isSheet(s)) {
            return BAD;
        }
        if (sheets.isLost(s)) {
            return found(NULL);
        }
        int came = 0;
        while (came < sheets.size(s) && border.append(sheets.item(s, came))) {
            came++;
        }
        return came;
    }

    public int clear() {
        return border.empty();
    }

    public int left(int n) {
        if (n < 0 || n > border.size()) {
            return BAD;
        }
        int why = hindrance(0);
        if (why != FINE) {
            return why;
        }
        border.compare();
        return border.leftBy(n);
    }

    public int out(int what) {
        if (what < 0 || what > 1) {
            return BAD;
        }
        int why = hindrance(0);
        if (why != FINE) {
            return why;
        }
        border.compare();
        return what == 0 ? border.firstOut() : border.blamed();
    }

    public int ask() {
        int why = hindrance(0);
        if (why != FINE) {
            return why == FULL ? NONE : why;
        }
        border.compare();
        int open = border.leftAtLast();
        return Integer.bitCount(open) == 1 ? NONE : view.mostTelling(open);
    }

    // ---- sheets

    public int sheet(int s, int form, int n) {
        if (!isSheet(s) || !isForm(form) || n > SHEET_ROOM) {
            return BAD;
        }
        if (n < 0) {
            return found(SIZE);
        }
        sheets.renew(s, form, n);
        return n;
    }

    public int lose(int s) {
        if (!isSheet(s)) {
            return BAD;
        }
        if (sheets.isLost(s)) {
            return found(NULL);
        }
        return sheets.drop(s);
    }

    public int put(int s, int form, int i, int v) {
        if (!isSheet(s) || !isForm(form)) {
            return BAD;
        }
        int wrong = sheets.wrongAbout(s, form, i);
        if (wrong != FINE) {
            return found(wrong);
        }
        sheets.change(s, i, v);
        return 1;
    }

    public int get(int s, int form, int i) {
        if (!isSheet(s) || !isForm(form)) {
            return LEAST_INT;
        }
        int wrong = sheets.wrongAbout(s, form, i);
        if (wrong != FINE) {
            finding = wrong;
            return LEAST_INT;
        }
        return sheets.item(s, i);
    }

    public int copy(int s, int i, int t, int j, int n) {
        if (!isSheet(s) || !isSheet(t)) {
            return BAD;
        }
        if (sheets.isLost(s) || sheets.isLost(t)) {
            return found(NULL);
        }
        if (sheets.form(s) != sheets.form(t)) {
            return found(STORE);
        }
        if (!sheets.hasItems(s, i, n) || !sheets.hasItems(t, j, n)) {
            return found(INDEX);
        }
        sheets.move(s, i, t, j, n);
        return 1;
    }

    public int write(int s, int history) {
        if (!isSheet(s) || !isHistory(history)) {
            return BAD;
        }
        if (sheets.isLost(s)) {
            return found(NULL);
        }
        int why = hindrance(history);
        if (why != FINE) {
            return why;
        }
        int many = Math.min(sheets.size(s), set.length(history));
        for (int i = 0; i < many; i++) {
            sheets.change(s, i, set.word(history, i));
        }
        return many;
    }

    public int count(int what) {
        if (what == 4 || what == 5) {
            int why = hindrance(0);
            if (why != FINE) {
                return why;
            }
            return what == 4 ? set.size() : knowing.soundness();
        }
        switch (what) {
            case 0:
                return planText.length();
            case 1:
                return programText.length();
            case 2:
                return tellings;
            case 3:
                return border.size();
            case 8:
                return finding;
            default:
                return BAD;
        }
    }

    public long digest() {
        int why = hindrance(0);
        boolean fine = why == FINE;
        long h = 17L;
        h = 31L * h + planText.length();
        h = 31L * h + programText.length();
        h = 31L * h + tellings;
        h = 31L * h + border.size();
        h = 31L * h + (fine ? set.size() : why);
        h = 31L * h + (fine ? knowing.soundness() : why);
        h = 31L * h + reader.firstFault();
        h = 31L * h + program.firstFault();
        if (fine) {
            for (int history = 0; history < set.size(); history++) {
                h = withHistory(h, history);
            }
            border.compare();
        }
        for (int what = 0; what < 4; what++) {
            h = 31L * h + (fine ? knowing.momentPart(what) : why);
        }
        return 31L * h + (fine ? border.firstOut() : why);
    }

    private long withHistory(long before, int history) {
        long h = 31L * before + set.length(history);
        for (int i = 0; i < set.length(history); i++) {
            h = 31L * h + set.word(history, i);
        }
        return 31L * h + runs.chain(history);
    }

    /** Why a HISTORY can't be told of, or FINE. (HISTORY 0 there always is: it stands for all of them.) */
    private int hindrance(int history) {
        if (reader.firstFault() != NONE) {
            return NOT;
        }
        if (!set.make(tellings)) {
            return FULL;
        }
        return history < set.size() ? FINE : BAD;
    }

    private int found(int number) {
        finding = number;
        return -10 - number;
    }

    private static boolean isTalker(int talker) {
        return talker >= 0 && talker < TALKERS;
    }

    private static boolean isHistory(int history) {
        return history >= 0 && history < MOST_HISTORIES;
    }

    private static boolean isSheet(int s) {
        return s >= 0 && s < SHEETS;
    }

    private static boolean isForm(int form) {
        return form >= 0 && form < FORMS;
    }

    private static boolean isTalkerLetter(int b) {
        return b >= 'A' && b < 'A' + TALKERS;
    }

    private static boolean isWordLetter(int b) {
        return b >= 'a' && b < 'a' + LETTERS;
    }

    private static boolean has(int bits, int number) {
        return ((bits >> number) & 1) != 0;
    }

    private static int sayer(int code) {
        return code / 1000;
    }

    private static int getter(int code) {
        return code / 100 % 10;
    }

    /** Numbers whose every index is looked at: one that there is not reads as 0 and takes nothing. */
    private static final class Row {
        private final int[] items;

        Row(int size) {
            items = new int[Math.max(0, size)];
        }

        int at(int i) {
            return i >= 0 && i < items.length ? items[i] : 0;
        }

        void set(int i, int value) {
            if (i >= 0 && i < items.length) {
                items[i] = value;
            }
        }

        void add(int i, int more) {
            if (i >= 0 && i < items.length) {
                items[i] += more;
            }
        }

        void fill(int value) {
            for (int i = 0; i < items.length; i++) {
                items[i] = value;
            }
        }
    }

    /** Bytes as they are typed; the number of changes lets readers see when to read anew. */
    private static final class Text {
        private final Row bytes;
        private final int room;
        private int length;
        private int changes;

        Text(int room) {
            this.room = room;
            bytes = new Row(room);
        }

        boolean append(int b) {
            if (length >= room) {
                return false;
            }
            bytes.set(length, b);
            length++;
            changes++;
            return true;
        }

        int empty() {
            int had = length;
            length = 0;
            changes++;
            return had;
        }

        int length() {
            return length;
        }

        int changes() {
            return changes;
        }

        /** NONE, which is no byte, behind the end. */
        int at(int i) {
            return i >= 0 && i < length ? bytes.at(i) : NONE;
        }
    }

    /** The PLAN as steps one behind the other. */
    private static final class Steps {
        private final Row kinds = new Row(PLAN_ROOM);
        private final Row values = new Row(PLAN_ROOM);
        private final Row choosers = new Row(CHOICE_ROOM);
        private final Row wayCounts = new Row(CHOICE_ROOM);
        private final Row wayStarts = new Row(CHOICE_ROOM * MOST_WAYS);
        private final Row ends = new Row(CHOICE_ROOM);
        private final Row itemHistories = new Row(MOST_OPEN + 1);
        private final Row itemWords = new Row(MOST_OPEN + 1);
        private final Row wayHistories = new Row(MOST_OPEN + 1);
        private final Row wayWords = new Row(MOST_OPEN + 1);
        private int size;
        private int choices;
        private int version;

        void reset() {
            size = 0;
            choices = 0;
            version++;
        }

        int version() {
            return version;
        }

        int size() {
            return size;
        }

        int kind(int place) {
            return kinds.at(place);
        }

        int value(int place) {
            return values.at(place);
        }

        void add(int kind, int value) {
            kinds.set(size, kind);
            values.set(size, value);
            size++;
        }

        /** Rounds of nothing leave no step behind: they could make a walk very long. */
        void closeRounds(int start) {
            if (size == start + 1) {
                size = start;
            } else {
                kinds.set(size, END_REPEAT);
                values.set(size, values.at(start));
                size++;
            }
        }

        int choices() {
            return choices;
        }

        int chooser(int choice) {
            return choosers.at(choice);
        }

        int wayCount(int choice) {
            return wayCounts.at(choice);
        }

        int wayStart(int choice, int way) {
            return wayStarts.at(choice * MOST_WAYS + way);
        }

        int end(int choice) {
            return ends.at(choice);
        }

        int newChoice(int talker) {
            int choice = choices;
            choices++;
            choosers.set(choice, talker);
            wayCounts.set(choice, 0);
            return choice;
        }

        void beginWay(int choice) {
            wayStarts.set(choice * MOST_WAYS + wayCounts.at(choice), size);
            wayCounts.add(choice, 1);
        }

        void endChoice(int choice) {
            ends.set(choice, size);
        }

        /** Bits of the TALKERS that are told of a choice. */
        int toldOf(int choice, int told) {
            if (choice < 0 || choice >= TELLING_CHOICES) {
                return 0;
            }
            int others = ALL_TALKERS & ~(1 << choosers.at(choice));
            return (told >> (choice * TALKERS)) & others;
        }

        /** Counts HISTORIES and words without making any: there may be more than could ever be walked. */
        boolean isTooMuch(int told) {
            int depth = 0;
            beginItems(depth);
            for (int place = 0; place < size; place++) {
                int kind = kinds.at(place);
                if (kind == SAY) {
                    itemWords.set(depth, upTo(MOST_WORDS + 1, itemWords.at(depth) + 1));
                } else if (kind == CHOOSE || kind == REPEAT) {
                    depth++;
                    beginItems(depth);
                    wayHistories.set(depth, 0);
                    wayWords.set(depth, 0);
                } else if (kind == NEXT_WAY) {
                    endWay(depth);
                } else if (kind == END_CHOICE) {
                    endWay(depth);
                    depth--;
                    int tellings = Integer.bitCount(toldOf(values.at(place), told));
                    addItem(depth, wayHistories.at(depth + 1), wayWords.at(depth + 1) + tellings);
                } else {
                    depth--;
                    for (int round = 0; round < values.at(place); round++) {
                        addItem(depth, itemHistories.at(depth + 1), itemWords.at(depth + 1));
                    }
                }
            }
            return itemHistories.at(0) > MOST_HISTORIES || itemWords.at(0) > MOST_WORDS;
        }

        private void beginItems(int depth) {
            itemHistories.set(depth, 1);
            itemWords.set(depth, 0);
        }

        private void addItem(int depth, int histories, int words) {
            itemHistories.set(depth, upTo(MOST_HISTORIES + 1, itemHistories.at(depth) * histories));
            itemWords.set(depth, upTo(MOST_WORDS + 1, itemWords.at(depth) + words));
        }

        private void endWay(int depth) {
            wayHistories.set(depth, upTo(MOST_HISTORIES + 1, wayHistories.at(depth) + itemHistories.at(depth)));
            if (itemWords.at(depth) > wayWords.at(depth)) {
                wayWords.set(depth, itemWords.at(depth));
            }
            beginItems(depth);
        }

        /** One above the most stands for all that is more, so that no count outgrows an int. */
        private static int upTo(int most, int number) {
            return number < most ? number : most;
        }
    }

    /** Reads the PLAN's text into steps, up to its FAULT. */
    private static final class PlanReader {
        private static final int ROUNDS = -1;

        private final Text text;
        private final Steps steps;
        private final Row openChoices = new Row(MOST_OPEN);
        private final Row openPlaces = new Row(MOST_OPEN);
        private int depth;
        private int position;
        private int fault = NONE;
        private int used;
        private int sayings;
        private int changesRead = -1;

        PlanReader(Text text, Steps steps) {
            this.text = text;
            this.steps = steps;
        }

        int used() {
            return used;
        }

        int sayings() {
            return sayings;
        }

        int firstFault() {
            if (changesRead == text.changes()) {
                return fault;
            }
            changesRead = text.changes();
            restart();
            boolean itemIsDue = true;
            for (int turn = 0; turn <= PLAN_ROOM && fault == NONE; turn++) {
                if (itemIsDue) {
                    itemIsDue = readItem();
                } else if (position < text.length()) {
                    itemIsDue = readBehindItem();
                } else {
                    break;
                }
            }
            if (fault == NONE && depth > 0) {
                fault = text.length();
            }
            return fault;
        }

        private void restart() {
            steps.reset();
            depth = 0;
            position = 0;
            fault = NONE;
            used = 0;
            sayings = 0;
        }

        /** Whether an item is due next. */
        private boolean readItem() {
            int b = text.at(position);
            if (b == '-') {
                position++;
                return false;
            }
            if (isTalkerLetter(b) && text.at(position + 1) == '>') {
                return readSaying(b);
            }
            if (isTalkerLetter(b) || b >= '2' && b <= '4') {
                return readOpening(b);
            }
            return failAt(position);
        }

        private boolean readSaying(int from) {
            int to = text.at(position + 2);
            if (!isTalkerLetter(to) || to == from) {
                return failAt(position + 2);
            }
            int word = text.at(position + 3);
            if (!isWordLetter(word)) {
                return failAt(position + 3);
            }
            steps.add(SAY, 1000 * (from - 'A') + 100 * (to - 'A') + (word - 'a'));
            used |= (1 << (from - 'A')) | (1 << (to - 'A'));
            sayings++;
            position += 4;
            return false;
        }

        private boolean readOpening(int ahead) {
            if (text.at(position + 1) != '(' || depth >= MOST_OPEN) {
                return failAt(position + 1);
            }
            openPlaces.set(depth, steps.size());
            if (isTalkerLetter(ahead)) {
                int choice = steps.newChoice(ahead - 'A');
                steps.add(CHOOSE, choice);
                steps.beginWay(choice);
                openChoices.set(depth, choice);
                used |= 1 << (ahead - 'A');
            } else {
                steps.add(REPEAT, ahead - '0');
                openChoices.set(depth, ROUNDS);
            }
            depth++;
            position += 2;
            return true;
        }

        private boolean readBehindItem() {
            int b = text.at(position);
            if (b == ',') {
                position++;
                return true;
            }
            if (depth > 0 && b == '|') {
                return readNextWay(openChoices.at(depth - 1));
            }
            if (depth > 0 && b == ')') {
                return readClosing(openChoices.at(depth - 1));
            }
            return failAt(position);
        }

        private boolean readNextWay(int choice) {
            if (choice == ROUNDS || steps.wayCount(choice) >= MOST_WAYS) {
                return failAt(position);
            }
            steps.add(NEXT_WAY, choice);
            steps.beginWay(choice);
            position++;
            return true;
        }

        private boolean readClosing(int choice) {
            if (choice == ROUNDS) {
                steps.closeRounds(openPlaces.at(depth - 1));
            } else if (steps.wayCount(choice) < 2) {
                return failAt(position);
            } else {
                steps.add(END_CHOICE, choice);
                steps.endChoice(choice);
            }
            depth--;
            position++;
            return false;
        }

        private boolean failAt(int place) {
            fault = place;
            return false;
        }
    }

    /** All HISTORIES of the steps with TELLINGS. */
    private static final class Histories {
        private final Steps steps;
        private final Row words = new Row(MOST_HISTORIES * MOST_WORDS);
        private final Row lengths = new Row(MOST_HISTORIES);
        /** A HISTORY comes to fewer choices than there are HISTORIES: each splits off at least one more. */
        private final Row pathWays = new Row(MOST_HISTORIES);
        private final Row pathChoices = new Row(MOST_HISTORIES);
        private final Row turnDepths = new Row(MOST_HISTORIES);
        private final Row turnTalkers = new Row(MOST_HISTORIES);
        private final Row roundStarts = new Row(MOST_OPEN);
        private final Row roundsLeft = new Row(MOST_OPEN);
        private int size;
        private int settled;
        private int come;
        private int open;
        private int madeVersion = -1;
        private int madeTold = -1;
        private boolean tooMuch;
        private int makings;

        Histories(Steps steps) {
            this.steps = steps;
        }

        int size() {
            return size;
        }

        int all() {
            return (1 << size) - 1;
        }

        int length(int history) {
            return lengths.at(history);
        }

        int word(int history, int i) {
            return words.at(history * MOST_WORDS + i);
        }

        /** Another number whenever the HISTORIES may be others. */
        int makings() {
            return makings;
        }

        /** False: the PLAN is TOO MUCH. */
        boolean make(int told) {
            if (madeVersion == steps.version() && madeTold == told) {
                return !tooMuch;
            }
            madeVersion = steps.version();
            madeTold = told;
            makings++;
            size = 0;
            settled = 0;
            tooMuch = steps.isTooMuch(told);
            boolean more = !tooMuch;
            while (more && size < MOST_HISTORIES) {
                walk(size, told);
                more = turn(size);
                size++;
            }
            return !tooMuch;
        }

        private void walk(int history, int told) {
            lengths.set(history, 0);
            come = 0;
            open = 0;
            int place = 0;
            for (int count = 0; count < MANY_STEPS && place < steps.size(); count++) {
                int value = steps.value(place);
                switch (steps.kind(place)) {
                    case SAY:
                        say(history, value);
                        place++;
                        break;
                    case CHOOSE:
                        place = steps.wayStart(value, choose(history, value, told));
                        break;
                    case NEXT_WAY:
                        place = steps.end(value);
                        break;
                    case REPEAT:
                        place++;
                        beginRounds(place, value);
                        break;
                    case END_REPEAT:
                        place = endRound(place + 1);
                        break;
                    default:
                        place++;
                        break;
                }
            }
        }

        private void say(int history, int code) {
            int length = lengths.at(history);
            if (length < MOST_WORDS) {
                words.set(history * MOST_WORDS + length, code);
                lengths.set(history, length + 1);
            }
        }

        /** The WAY at a choice that is come to, all who are told of it having been told. */
        private int choose(int history, int choice, int told) {
            if (come >= settled) {
                pathWays.set(come, 0);
                pathChoices.set(come, choice);
                settled = come + 1;
            }
            int way = pathWays.at(come);
            come++;
            int who = steps.toldOf(choice, told);
            for (int talker = 0; talker < TALKERS; talker++) {
                if (has(who, talker)) {
                    say(history, 1000 * steps.chooser(choice) + 100 * talker + LETTERS + way);
                }
            }
            return way;
        }

        private void beginRounds(int start, int times) {
            roundStarts.set(open, start);
            roundsLeft.set(open, times - 1);
            open++;
        }

        private int endRound(int behind) {
            int last = open - 1;
            if (roundsLeft.at(last) > 0) {
                roundsLeft.add(last, -1);
                return roundStarts.at(last);
            }
            open = last;
            return behind;
        }

        /** Goes over to the WAYS of the next HISTORY; false: there is none. */
        private boolean turn(int history) {
            for (int depth = come - 1; depth >= 0; depth--) {
                int choice = pathChoices.at(depth);
                if (pathWays.at(depth) + 1 < steps.wayCount(choice)) {
                    pathWays.add(depth, 1);
                    settled = depth + 1;
                    turnDepths.set(history, depth);
                    turnTalkers.set(history, steps.chooser(choice));
                    return true;
                }
            }
            return false;
        }

        /** As HISTORIES stand in order of their WAYS, two PART at the shallowest of the turns between them. */
        int parter(int a, int b) {
            int last = Math.max(a, b);
            int best = Math.min(a, b);
            for (int history = best + 1; history < last; history++) {
                if (turnDepths.at(history) < turnDepths.at(best)) {
                    best = history;
                }
            }
            return turnTalkers.at(best);
        }
    }

    /** LOOKS of one TALKER at all HISTORIES. */
    private static final class Looks {
        private final Histories set;
        private final Row acts = new Row(MOST_HISTORIES * MOST_WORDS);
        private final Row lengths = new Row(MOST_HISTORIES);

        Looks(Histories set) {
            this.set = set;
        }

        void load(int talker) {
            for (int history = 0; history < set.size(); history++) {
                int length = 0;
                for (int i = 0; i < set.length(history); i++) {
                    int code = set.word(history, i);
                    if (sayer(code) == talker || getter(code) == talker) {
                        int side = sayer(code) == talker ? SAYS : GETS;
                        acts.set(history * MOST_WORDS + length, side + code);
                        length++;
                    }
                }
                lengths.set(history, length);
            }
        }

        int length(int history) {
            return lengths.at(history);
        }

        int act(int history, int i) {
            return acts.at(history * MOST_WORDS + i);
        }

        boolean says(int history, int i) {
            return i < lengths.at(history) && acts.at(history * MOST_WORDS + i) < GETS;
        }

        boolean gets(int history, int i) {
            return i < lengths.at(history) && acts.at(history * MOST_WORDS + i) >= GETS;
        }

        /** How many acts both LOOKS begin with. */
        int common(int a, int b) {
            int most = Math.min(lengths.at(a), lengths.at(b));
            int same = 0;
            while (same < most && acts.at(a * MOST_WORDS + same) == acts.at(b * MOST_WORDS + same)) {
                same++;
            }
            return same;
        }

        boolean bothEnd(int a, int b, int place) {
            return lengths.at(a) == place && lengths.at(b) == place;
        }

        /** In how many unlike LOOKS these HISTORIES (bits) fall. */
        int unlike(int histories) {
            int many = 0;
            for (int history = 0; history < set.size(); history++) {
                if (has(histories, history) && isFirst(history, histories)) {
                    many++;
                }
            }
            return many;
        }

        private boolean isFirst(int history, int histories) {
            for (int earlier = 0; earlier < history; earlier++) {
                if (has(histories, earlier) && bothEnd(earlier, history, common(earlier, history))) {
                    return false;
                }
            }
            return true;
        }

        /** The least TALKER whose LOOKS at these HISTORIES are the most unlike ones. */
        int mostTelling(int histories) {
            int best = 0;
            int most = 0;
            for (int talker = 0; talker < TALKERS; talker++) {
                load(talker);
                int many = unlike(histories);
                if (many > most) {
                    most = many;
                    best = talker;
                }
            }
            return best;
        }
    }

    /** Whether TALKERS know what to do, and TELLINGS by which they do. */
    private static final class Knowing {
        private final Steps steps;
        private final Histories set;
        private final Looks view;
        /** TALKER, both HISTORIES and the place; NONE each, if the PLAN is SOUND. */
        private final Row moment = new Row(4);
        private final Row candidates = new Row(MOST_CANDIDATES);
        private int searchedMakings = -1;
        private int mendedVersion = -1;
        private int mendedAnswer = NONE;

        Knowing(Steps steps, Histories set, Looks view) {
            this.steps = steps;
            this.set = set;
            this.view = view;
        }

        int soundness() {
            search();
            return moment.at(0) == NONE ? 1 : 0;
        }

        int momentPart(int what) {
            search();
            return moment.at(what);
        }

        private void search() {
            if (searchedMakings == set.makings()) {
                return;
            }
            searchedMakings = set.makings();
            moment.fill(NONE);
            for (int talker = 0; talker < TALKERS; talker++) {
                view.load(talker);
                if (searchFor(talker)) {
                    return;
                }
            }
        }

        private boolean searchFor(int talker) {
            for (int a = 0; a < set.size(); a++) {
                for (int b = a + 1; b < set.size(); b++) {
                    int place = view.common(a, b);
                    if (!view.bothEnd(a, b, place) && !bothGet(a, b, place) && set.parter(a, b) != talker) {
                        moment.set(0, talker);
                        moment.set(1, a);
                        moment.set(2, b);
                        moment.set(3, place);
                        return true;
                    }
                }
            }
            return false;
        }

        private boolean bothGet(int a, int b, int place) {
            return view.gets(a, place) && view.gets(b, place);
        }

        /** MENDED; kept until the PLAN is another one, as no other answer is as dear. */
        int fewestTellings(int used) {
            if (mendedVersion == steps.version()) {
                return mendedAnswer;
            }
            mendedVersion = steps.version();
            int many = findCandidates(used);
            mendedAnswer = many > MOST_CANDIDATES || steps.isTooMuch(0) ? FULL : NONE;
            for (int size = 0; size <= many && mendedAnswer == NONE; size++) {
                mendedAnswer = leastOfSize(size, many);
            }
            return mendedAnswer;
        }

        /** The least set of so many candidates with which the PLAN is SOUND; NONE. */
        private int leastOfSize(int size, int many) {
            // Candidates stand in order of their bits, so that sets of them, as numbers, do so, too.
            for (int chosen = 0; chosen < 1 << many; chosen++) {
                if (Integer.bitCount(chosen) == size && set.make(bitsOf(chosen))) {
                    search();
                    if (moment.at(0) == NONE) {
                        return bitsOf(chosen);
                    }
                }
            }
            return NONE;
        }

        private int findCandidates(int used) {
            int many = 0;
            int choices = Math.min(TELLING_CHOICES, steps.choices());
            for (int choice = 0; choice < choices; choice++) {
                int others = steps.toldOf(choice, used << choice * TALKERS);
                for (int talker = 0; talker < TALKERS; talker++) {
                    if (has(others, talker)) {
                        candidates.set(many, choice * TALKERS + talker);
                        many++;
                    }
                }
            }
            return many;
        }

        private int bitsOf(int chosen) {
            int bits = 0;
            for (int i = 0; i < MOST_CANDIDATES; i++) {
                if (has(chosen, i)) {
                    bits |= 1 << candidates.at(i);
                }
            }
            return bits;
        }
    }

    /** RUNS of a HISTORY. Both LOOKS hold words in its order, so that one that is due is the first in its QUEUE. */
    private static final class Runs {
        private final Histories set;
        private final Row places = new Row(TALKERS);
        private final Row queues = new Row(TALKERS * TALKERS);
        private final Row steppers = new Row(2 * MOST_WORDS);
        private final Row chains = new Row(MOST_WORDS);
        private int stepCount;
        private int longestQueue;
        private int stuck;
        private int neverGot;

        Runs(Histories set) {
            this.set = set;
        }

        int stepCount() {
            return stepCount;
        }

        int longestQueue() {
            return longestQueue;
        }

        int stepper(int i) {
            return steppers.at(i);
        }

        void goByLots(int history, int seed) {
            stepCount = 0;
            longestQueue = 0;
            queues.fill(0);
            for (int talker = 0; talker < TALKERS; talker++) {
                places.set(talker, nextPlace(history, talker, 0));
            }
            int lot = seed;
            while (stepCount < 2 * MOST_WORDS) {
                int able = ableTalkers(history);
                int many = Integer.bitCount(able);
                if (many == 0) {
                    break;
                }
                lot = 1103515245 * lot + 12345;
                int talker = pick(able, (lot >>> 16) % many);
                act(history, talker);
                steppers.set(stepCount, talker);
                stepCount++;
            }
        }

        /** The first word from a place on that a TALKER says or gets; the HISTORY's length: none. */
        private int nextPlace(int history, int talker, int from) {
            int place = from;
            while (place < set.length(history) && !takesPart(talker, set.word(history, place))) {
                place++;
            }
            return place;
        }

        private int ableTalkers(int history) {
            int able = 0;
            for (int talker = 0; talker < TALKERS; talker++) {
                int place = places.at(talker);
                if (place < set.length(history)) {
                    int from = sayer(set.word(history, place));
                    if (from == talker || places.at(from) > place) {
                        able |= 1 << talker;
                    }
                }
            }
            return able;
        }

        private static int pick(int talkers, int number) {
            int ahead = number;
            for (int talker = 0; talker < TALKERS; talker++) {
                if (has(talkers, talker)) {
                    if (ahead == 0) {
                        return talker;
                    }
                    ahead--;
                }
            }
            return NONE;
        }

        private void act(int history, int talker) {
            int place = places.at(talker);
            int code = set.word(history, place);
            int queue = sayer(code) * TALKERS + getter(code);
            queues.add(queue, sayer(code) == talker ? 1 : -1);
            longestQueue = Math.max(longestQueue, queues.at(queue));
            places.set(talker, nextPlace(history, talker, place + 1));
        }

        /** A QUEUE is longest just behind a saying, when only what must come ahead of it has been done. */
        int longestEver(int history, int from, int to) {
            int most = 0;
            int words = 0;
            for (int place = 0; place < set.length(history); place++) {
                if (goes(set.word(history, place), from, to)) {
                    words++;
                    most = Math.max(most, words - gotAhead(history, place, from, to));
                }
            }
            return most;
        }

        /** How many words of a QUEUE must have been got ahead of the saying at a place. */
        private int gotAhead(int history, int saying, int from, int to) {
            int needed = 1 << from;
            int got = 0;
            for (int place = saying - 1; place >= 0; place--) {
                int code = set.word(history, place);
                if (has(needed, getter(code))) {
                    needed |= 1 << sayer(code);
                    got += goes(code, from, to) ? 1 : 0;
                }
            }
            return got;
        }

        int chain(int history) {
            int most = 0;
            for (int place = 0; place < set.length(history); place++) {
                int ahead = 0;
                for (int earlier = 0; earlier < place; earlier++) {
                    if (getter(set.word(history, earlier)) == sayer(set.word(history, place))) {
                        ahead = Math.max(ahead, chains.at(earlier));
                    }
                }
                chains.set(place, ahead + 1);
                most = Math.max(most, ahead + 1);
            }
            return most;
        }

        int packed(int history) {
            int many = 0;
            for (int place = 0; place < set.length(history); place++) {
                if (!goesWithOneAhead(history, place)) {
                    many++;
                }
            }
            return many;
        }

        private boolean goesWithOneAhead(int history, int place) {
            int from = sayer(set.word(history, place));
            int to = getter(set.word(history, place));
            for (int earlier = place - 1; earlier >= 0; earlier--) {
                int code = set.word(history, earlier);
                if (takesPart(from, code) || takesPart(to, code)) {
                    return goes(code, from, to);
                }
            }
            return false;
        }

        /** In the HISTORY's order all is done that ever can be; who can't do an act does none behind it. */
        void goWithLost(int history, int lostTalker, int acts) {
            int halted = 0;
            int actsLeft = acts;
            neverGot = 0;
            for (int place = 0; place < set.length(history); place++) {
                int code = set.word(history, place);
                if (takesPart(lostTalker, code)) {
                    halted |= actsLeft == 0 ? 1 << lostTalker : 0;
                    actsLeft = Math.max(0, actsLeft - 1);
                }
                boolean isSaid = !has(halted, sayer(code));
                boolean isGot = isSaid && !has(halted, getter(code));
                halted |= isGot ? 0 : 1 << getter(code);
                neverGot += isSaid && !isGot ? 1 : 0;
            }
            stuck = halted & ~(1 << lostTalker);
        }

        int stuck() {
            return stuck;
        }

        int neverGot() {
            return neverGot;
        }

        private static boolean goes(int code, int from, int to) {
            return sayer(code) == from && getter(code) == to;
        }

        private static boolean takesPart(int talker, int code) {
            return sayer(code) == talker || getter(code) == talker;
        }
    }

    /** The PROGRAM's ROWS, beside LOOKS. */
    private static final class Program {
        private final Text text;
        private final Histories set;
        private final Looks view;
        /** Acts without their TALKER: it is told only when the PROGRAM is held beside LOOKS. */
        private final Row sides = new Row(PROGRAM_ROOM);
        private final Row others = new Row(PROGRAM_ROOM);
        private final Row words = new Row(PROGRAM_ROOM);
        private final Row starts = new Row(MOST_ROWS + 1);
        private int rows;
        private int fault = NONE;
        private int changesRead = -1;

        Program(Text text, Histories set, Looks view) {
            this.text = text;
            this.set = set;
            this.view = view;
        }

        int firstFault() {
            if (changesRead != text.changes()) {
                changesRead = text.changes();
                fault = read();
            }
            return fault;
        }

        private int read() {
            int acts = 0;
            int position = 0;
            rows = 1;
            starts.set(0, 0);
            while (position < text.length()) {
                int b = text.at(position);
                if (b == '|' && rows < MOST_ROWS) {
                    starts.set(rows, acts);
                    rows++;
                    position++;
                } else if (b != '!' && b != '?') {
                    return position;
                } else if (!isTalkerLetter(text.at(position + 1))) {
                    return position + 1;
                } else if (!isWordLetter(text.at(position + 2))) {
                    return position + 2;
                } else {
                    sides.set(acts, b == '!' ? SAYS : GETS);
                    others.set(acts, text.at(position + 1) - 'A');
                    words.set(acts, text.at(position + 2) - 'a');
                    acts++;
                    position += 3;
                }
            }
            starts.set(rows, acts);
            return NONE;
        }

        private int length(int row) {
            return starts.at(row + 1) - starts.at(row);
        }

        private int act(int row, int i, int talker) {
            int place = starts.at(row) + i;
            int other = others.at(place);
            int between = sides.at(place) == SAYS ? 1000 * talker + 100 * other : 1000 * other + 100 * talker;
            return sides.at(place) + between + words.at(place);
        }

        /** BREACH beside the LOOKS of a TALKER; NONE: it FITS. */
        int firstBreach(int talker) {
            view.load(talker);
            for (int length = 0; length <= MOST_WORDS; length++) {
                for (int row = 0; row < rows; row++) {
                    if (length(row) >= length && isBreach(row, length, talker)) {
                        return length;
                    }
                }
            }
            return NONE;
        }

        /** Whether, after so many first acts of a ROW, a LOOK that begins so shows what may not be. */
        private boolean isBreach(int row, int length, int talker) {
            int rowsSo = rowsBeginningAs(row, length, talker);
            int looksSo = looksBeginningAs(row, length, talker);
            if (looksSo == 0) {
                return false;
            }
            return !rowsGetAll(rowsSo, looksSo, length, talker)
                || !looksSayAll(rowsSo, looksSo, length, talker)
                || looksOnlySay(looksSo, length) && !rowsSay(rowsSo, length);
        }

        private boolean rowsGetAll(int rowsSo, int looksSo, int i, int talker) {
            for (int history = 0; history < set.size(); history++) {
                if (has(looksSo, history) && view.gets(history, i)
                    && !rowsDo(rowsSo, i, view.act(history, i), talker)) {
                    return false;
                }
            }
            return true;
        }

        private boolean looksSayAll(int rowsSo, int looksSo, int i, int talker) {
            for (int row = 0; row < rows; row++) {
                if (has(rowsSo, row) && saysAt(row, i) && !looksDo(looksSo, i, act(row, i, talker))) {
                    return false;
                }
            }
            return true;
        }

        /** Of some LOOKS: none gets something at this place, and none ends there. */
        private boolean looksOnlySay(int looksSo, int i) {
            for (int history = 0; history < set.size(); history++) {
                if (has(looksSo, history) && !view.says(history, i)) {
                    return false;
                }
            }
            return true;
        }

        private boolean rowsSay(int rowsSo, int i) {
            for (int row = 0; row < rows; row++) {
                if (has(rowsSo, row) && saysAt(row, i)) {
                    return true;
                }
            }
            return false;
        }

        private boolean saysAt(int row, int i) {
            return i < length(row) && sides.at(starts.at(row) + i) == SAYS;
        }

        private int rowsBeginningAs(int row, int length, int talker) {
            int bits = 0;
            for (int other = 0; other < rows; other++) {
                int most = Math.min(length, length(other));
                int same = 0;
                while (same < most && act(other, same, talker) == act(row, same, talker)) {
                    same++;
                }
                bits |= same == length ? 1 << other : 0;
            }
            return bits;
        }

        private int looksBeginningAs(int row, int length, int talker) {
            int bits = 0;
            for (int history = 0; history < set.size(); history++) {
                int most = Math.min(length, view.length(history));
                int same = 0;
                while (same < most && view.act(history, same) == act(row, same, talker)) {
                    same++;
                }
                bits |= same == length ? 1 << history : 0;
            }
            return bits;
        }

        private boolean rowsDo(int rowsSo, int i, int act, int talker) {
            for (int row = 0; row < rows; row++) {
                if (has(rowsSo, row) && i < length(row) && act(row, i, talker) == act) {
                    return true;
                }
            }
            return false;
        }

        private boolean looksDo(int looksSo, int i, int act) {
            for (int history = 0; history < set.size(); history++) {
                if (has(looksSo, history) && i < view.length(history) && view.act(history, i) == act) {
                    return true;
                }
            }
            return false;
        }
    }

    /** The LOG of what came over the border, beside HISTORIES. */
    private static final class Border {
        private final Histories set;
        private final Row codes = new Row(LOG_ROOM);
        /** Of each HISTORY how many of the LOG's first CODES it goes with. */
        private final Row borne = new Row(MOST_HISTORIES);
        /** For each two TALKERS (by the CODE's hundreds) the place in a HISTORY up to which words have been found. */
        private final Row places = new Row(TALKERS * 10);
        private int size;

        Border(Histories set) {
            this.set = set;
        }

        int size() {
            return size;
        }

        int empty() {
            int had = size;
            size = 0;
            return had;
        }

        boolean append(int code) {
            if (size >= LOG_ROOM || !mayBe(code)) {
                return false;
            }
            codes.set(size, code);
            size++;
            return true;
        }

        private static boolean mayBe(int code) {
            return code >= 0 && isTalker(sayer(code)) && isTalker(getter(code))
                && sayer(code) != getter(code) && code % 100 <= MOST_WORD_NUMBER;
        }

        void compare() {
            for (int history = 0; history < set.size(); history++) {
                places.fill(0);
                int went = 0;
                while (went < size && bears(history, codes.at(went))) {
                    went++;
                }
                borne.set(history, went);
            }
        }

        /** Whether the next word between the CODE's two TALKERS is the CODE; it is passed. */
        private boolean bears(int history, int code) {
            int pair = code / 100;
            for (int place = places.at(pair); place < set.length(history); place++) {
                int word = set.word(history, place);
                if (word / 100 == pair) {
                    places.set(pair, place + 1);
                    return word == code;
                }
            }
            return false;
        }

        int leftBy(int n) {
            int bits = 0;
            for (int history = 0; history < set.size(); history++) {
                bits |= borne.at(history) >= n ? 1 << history : 0;
            }
            return bits;
        }

        private int mostBorne() {
            int most = 0;
            for (int history = 0; history < set.size(); history++) {
                most = Math.max(most, borne.at(history));
            }
            return most;
        }

        int firstOut() {
            int most = mostBorne();
            return most < size ? most : NONE;
        }

        int blamed() {
            int most = mostBorne();
            return most < size ? sayer(codes.at(most)) : NONE;
        }

        /** HISTORIES LEFT by all of the LOG that is ahead of what is OUT. */
        int leftAtLast() {
            return leftBy(mostBorne());
        }
    }

    /** The SHEETS, all in one row of items, so that a new SHEET takes no room. */
    private static final class Sheets {
        private static final int BYTES = 0;
        private static final int SHORTS = 1;

        private final Row items = new Row(SHEETS * SHEET_ROOM);
        private final Row forms = new Row(SHEETS);
        private final Row sizes = new Row(SHEETS);

        Sheets() {
            forms.fill(NONE);
        }

        boolean isLost(int s) {
            return forms.at(s) == NONE;
        }

        int form(int s) {
            return forms.at(s);
        }

        int size(int s) {
            return sizes.at(s);
        }

        int item(int s, int i) {
            return items.at(s * SHEET_ROOM + i);
        }

        boolean hasItems(int s, int from, int many) {
            return from >= 0 && many >= 0 && from <= size(s) && many <= size(s) - from;
        }

        /** The FINDING about an item treated as of a FORM. */
        int wrongAbout(int s, int form, int i) {
            if (isLost(s)) {
                return NULL;
            }
            if (forms.at(s) != form) {
                return CAST;
            }
            return hasItems(s, i, 1) ? FINE : INDEX;
        }

        void renew(int s, int form, int many) {
            forms.set(s, form);
            sizes.set(s, many);
            for (int i = 0; i < many; i++) {
                items.set(s * SHEET_ROOM + i, 0);
            }
        }

        int drop(int s) {
            int had = sizes.at(s);
            forms.set(s, NONE);
            sizes.set(s, 0);
            return had;
        }

        void change(int s, int i, int value) {
            int kept = value;
            if (forms.at(s) == BYTES) {
                kept = (byte) value;
            } else if (forms.at(s) == SHORTS) {
                kept = (short) value;
            }
            items.set(s * SHEET_ROOM + i, kept);
        }

        /** From the end on where it goes up, so that items are read as they were. */
        void move(int s, int i, int t, int j, int many) {
            for (int n = 0; n < many; n++) {
                int k = j > i ? many - 1 - n : n;
                items.set(t * SHEET_ROOM + j + k, item(s, i + k));
            }
        }
    }
}
