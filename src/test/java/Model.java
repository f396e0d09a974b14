import java.util.ArrayDeque;
import java.util.ArrayList;
import java.util.Deque;
import java.util.HashSet;
import java.util.List;
import java.util.Set;
import java.util.TreeSet;

/**
 * The document once more, as plainly as it can be said, with Java's library, exceptions and arrays: all HISTORIES by
 * products of lists, LONGEST by going through every RUN, SHEETS by the machine's own findings. Only for tests.
 */
final class Model {
    private static final int NONE = -1, BAD = -2, NOT = -3, FULL = -4;

    private static final class Refusal extends RuntimeException {
        private static final long serialVersionUID = 1L;
        private final int answer;

        Refusal(int answer) {
            super(null, null, false, false);
            this.answer = answer;
        }
    }

    private interface Node {
    }

    private record Saying(int code) implements Node {
    }

    private record Choice(int number, int talker, List<List<Node>> ways) implements Node {
    }

    private record Rounds(int times, List<Node> items) implements Node {
    }

    /** Codes of what is said; who chose, and which WAY, at each choice. */
    private record History(List<Integer> codes, List<List<Integer>> path) {
        History with(History more) {
            List<Integer> c = new ArrayList<>(codes);
            c.addAll(more.codes);
            List<List<Integer>> p = new ArrayList<>(path);
            p.addAll(more.path);
            return new History(c, p);
        }
    }

    private record Act(boolean says, int word, int code) {
        int number() {
            return (says ? 10000 : 20000) + code;
        }
    }

    private final StringBuilder plan = new StringBuilder();
    private final StringBuilder program = new StringBuilder();
    private int told;
    private final List<Integer> log = new ArrayList<>();
    private final Object[] sheets = new Object[4];
    private int finding;

    // ---- reading

    private int at;
    private int choices;
    private int used;
    private int words;

    private int peek(String text) {
        return at < text.length() ? text.charAt(at) : NONE;
    }

    private void need(boolean fine) {
        if (!fine) {
            throw new Refusal(at);
        }
    }

    private List<Node> readPlan() {
        at = 0;
        choices = 0;
        used = 0;
        words = 0;
        List<Node> items = readItems(0);
        need(at == plan.length());
        return items;
    }

    private List<Node> readItems(int depth) {
        List<Node> items = new ArrayList<>();
        while (true) {
            readItem(items, depth);
            if (peek(plan.toString()) != ',') {
                return items;
            }
            at++;
        }
    }

    private int letter(String letters) {
        int b = peek(plan.toString());
        int number = b < 0 ? -1 : letters.indexOf((char) b);
        need(number >= 0);
        at++;
        return number;
    }

    private void readItem(List<Node> items, int depth) {
        int which = letter("ABCDEF234-");
        if (which == 9) {
            return;
        }
        if (which < 6 && peek(plan.toString()) == '>') {
            at++;
            need(peek(plan.toString()) != 'A' + which);
            int to = letter("ABCDEF");
            int word = letter("abcdefghijklmnopqrstuvwxyz");
            used |= 1 << which | 1 << to;
            words++;
            items.add(new Saying(1000 * which + 100 * to + word));
            return;
        }
        need(peek(plan.toString()) == '(' && depth < 4);
        at++;
        if (which >= 6) {
            items.add(new Rounds(which - 4, readItems(depth + 1)));
        } else {
            used |= 1 << which;
            int number = choices++;
            List<List<Node>> ways = new ArrayList<>();
            ways.add(readItems(depth + 1));
            while (ways.size() < 4 && peek(plan.toString()) == '|') {
                at++;
                ways.add(readItems(depth + 1));
            }
            need(ways.size() > 1);
            items.add(new Choice(number, which, ways));
        }
        need(peek(plan.toString()) == ')');
        at++;
    }

    private List<List<String>> readProgram() {
        List<List<String>> rows = new ArrayList<>();
        rows.add(new ArrayList<>());
        String s = program.toString();
        at = 0;
        while (at < s.length()) {
            if (s.charAt(at) == '|') {
                need(rows.size() < 8);
                rows.add(new ArrayList<>());
                at++;
                continue;
            }
            int start = at;
            need("!?".indexOf(s.charAt(at)) >= 0);
            at++;
            need(at < s.length() && "ABCDEF".indexOf(s.charAt(at)) >= 0);
            at++;
            need(at < s.length() && s.charAt(at) >= 'a' && s.charAt(at) <= 'z');
            at++;
            rows.get(rows.size() - 1).add(s.substring(start, at));
        }
        return rows;
    }

    private int faultOf(int text) {
        try {
            if (text == 0) {
                readPlan();
            } else {
                readProgram();
            }
            return NONE;
        } catch (Refusal place) {
            return place.answer;
        }
    }

    // ---- histories

    private List<History> all() {
        return all(told);
    }

    private List<History> all(int bits) {
        List<Node> items;
        try {
            items = readPlan();
        } catch (Refusal place) {
            throw new Refusal(NOT);
        }
        return expand(items, bits);
    }

    private static List<History> limited(List<History> histories) {
        if (histories.size() > 30 || histories.stream().anyMatch(h -> h.codes().size() > 24)) {
            throw new Refusal(FULL);
        }
        return histories;
    }

    private static List<History> product(List<History> first, List<History> then) {
        List<History> both = new ArrayList<>();
        for (History a : first) {
            for (History b : then) {
                both.add(a.with(b));
            }
        }
        return limited(both);
    }

    private static List<History> expand(List<Node> items, int bits) {
        List<History> result = List.of(new History(List.of(), List.of()));
        for (Node item : items) {
            if (item instanceof Saying saying) {
                result = product(result, List.of(new History(List.of(saying.code()), List.of())));
            } else if (item instanceof Rounds rounds) {
                List<History> once = expand(rounds.items(), bits);
                for (int i = 0; i < rounds.times(); i++) {
                    result = product(result, once);
                }
            } else if (item instanceof Choice choice) {
                result = product(result, expandChoice(choice, bits));
            }
        }
        return result;
    }

    private static List<History> expandChoice(Choice choice, int bits) {
        List<History> histories = new ArrayList<>();
        for (int way = 0; way < choice.ways().size(); way++) {
            List<Integer> tellings = new ArrayList<>();
            for (int t = 0; t < 6; t++) {
                boolean isTold = choice.number() < 5 && (bits >> 6 * choice.number() + t & 1) == 1;
                if (isTold && t != choice.talker()) {
                    tellings.add(1000 * choice.talker() + 100 * t + 26 + way);
                }
            }
            History begin = new History(tellings, List.of(List.of(choice.talker(), way)));
            histories.addAll(product(List.of(begin), expand(choice.ways().get(way), bits)));
        }
        return limited(histories);
    }

    private static List<Act> lookOf(int talker, History history) {
        List<Act> acts = new ArrayList<>();
        for (int i = 0; i < history.codes().size(); i++) {
            int code = history.codes().get(i);
            if (code / 1000 == talker) {
                acts.add(new Act(true, i, code));
            } else if (code / 100 % 10 == talker) {
                acts.add(new Act(false, i, code));
            }
        }
        return acts;
    }

    private static List<Integer> numbers(List<Act> acts) {
        return acts.stream().map(Act::number).toList();
    }

    private static int parter(History a, History b) {
        for (int i = 0; ; i++) {
            if (!a.path().get(i).equals(b.path().get(i))) {
                return a.path().get(i).get(0);
            }
        }
    }

    private static int[] momentOf(List<History> histories) {
        for (int t = 0; t < 6; t++) {
            for (int a = 0; a < histories.size(); a++) {
                for (int b = 0; b < histories.size(); b++) {
                    if (a != b) {
                        int place = placeNotKnown(t, histories.get(a), histories.get(b));
                        if (place != NONE) {
                            return new int[] {t, a, b, place};
                        }
                    }
                }
            }
        }
        return new int[] {NONE, NONE, NONE, NONE};
    }

    private static int placeNotKnown(int t, History a, History b) {
        List<Integer> one = numbers(lookOf(t, a));
        List<Integer> other = numbers(lookOf(t, b));
        if (one.equals(other) || parter(a, b) == t) {
            return NONE;
        }
        int place = 0;
        while (place < one.size() && place < other.size() && one.get(place).equals(other.get(place))) {
            place++;
        }
        if (place == one.size() || place == other.size()) {
            return place;
        }
        return one.get(place) >= 20000 && other.get(place) >= 20000 ? NONE : place;
    }

    // ---- the face

    int type(int text, int b) {
        if (text != 0 && text != 1 || b != (b & 255)) {
            return BAD;
        }
        StringBuilder s = text == 0 ? plan : program;
        if (s.length() == (text == 0 ? 160 : 80)) {
            return FULL;
        }
        return s.append((char) b).length();
    }

    int wipe(int text) {
        if (text != 0 && text != 1) {
            return BAD;
        }
        StringBuilder s = text == 0 ? plan : program;
        int had = s.length();
        s.setLength(0);
        told = text == 0 ? 0 : told;
        return had;
    }

    int fault(int text) {
        return text != 0 && text != 1 ? BAD : faultOf(text);
    }

    int plan(int what) {
        if (what < 0 || what > 2) {
            return BAD;
        }
        if (faultOf(0) != NONE) {
            return NOT;
        }
        return new int[] {choices, used, words}[what];
    }

    int tell(int bits) {
        if (bits < 0 || bits >= 1 << 30) {
            return BAD;
        }
        int had = told;
        told = bits;
        return had;
    }

    int histories() {
        try {
            return all().size();
        } catch (Refusal refusal) {
            return refusal.answer;
        }
    }

    private static void good(boolean fine) {
        if (!fine) {
            throw new Refusal(BAD);
        }
    }

    private History history(int number) {
        List<History> histories = all();
        good(number < histories.size());
        return histories.get(number);
    }

    int said(int history, int i) {
        try {
            good(history >= 0 && history < 30 && i >= NONE);
            List<Integer> codes = history(history).codes();
            return i == NONE ? codes.size() : i < codes.size() ? codes.get(i) : NONE;
        } catch (Refusal refusal) {
            return refusal.answer;
        }
    }

    int look(int talker, int history, int i) {
        try {
            good(talker >= 0 && talker < 6 && history >= 0 && history < 30 && i >= NONE);
            List<Integer> acts = numbers(lookOf(talker, history(history)));
            return i == NONE ? acts.size() : i < acts.size() ? acts.get(i) : NONE;
        } catch (Refusal refusal) {
            return refusal.answer;
        }
    }

    private static int unlike(int talker, List<History> histories) {
        Set<List<Integer>> looks = new HashSet<>();
        for (History h : histories) {
            looks.add(numbers(lookOf(talker, h)));
        }
        return looks.size();
    }

    int looks(int talker) {
        try {
            good(talker >= 0 && talker < 6);
            return unlike(talker, all());
        } catch (Refusal refusal) {
            return refusal.answer;
        }
    }

    int parts(int a, int b) {
        try {
            good(a >= 0 && a < 30 && b >= 0 && b < 30 && a != b);
            return parter(history(a), history(b));
        } catch (Refusal refusal) {
            return refusal.answer;
        }
    }

    int sound() {
        try {
            return momentOf(all())[0] == NONE ? 1 : 0;
        } catch (Refusal refusal) {
            return refusal.answer;
        }
    }

    int moment(int what) {
        try {
            good(what >= 0 && what < 4);
            return momentOf(all())[what];
        } catch (Refusal refusal) {
            return refusal.answer;
        }
    }

    private void collectChoosers(List<Node> items, int[] choosers) {
        for (Node item : items) {
            if (item instanceof Rounds rounds) {
                collectChoosers(rounds.items(), choosers);
            } else if (item instanceof Choice choice) {
                choosers[choice.number()] = choice.talker();
                choice.ways().forEach(way -> collectChoosers(way, choosers));
            }
        }
    }

    int mended() {
        try {
            all(0);
            int[] choosers = new int[200];
            collectChoosers(readPlan(), choosers);
            List<Integer> candidates = new ArrayList<>();
            for (int bit = 0; bit < 6 * Math.min(5, choices); bit++) {
                if ((used >> bit % 6 & 1) == 1 && choosers[bit / 6] != bit % 6) {
                    candidates.add(bit);
                }
            }
            if (candidates.size() > 6) {
                return FULL;
            }
            TreeSet<Long> mending = new TreeSet<>(); // by how many, then as bits
            for (int subset = 0; subset < 1 << candidates.size(); subset++) {
                int bits = 0;
                for (int i = 0; i < candidates.size(); i++) {
                    bits |= (subset >> i & 1) << candidates.get(i);
                }
                if (isSoundWith(bits)) {
                    mending.add(((long) Integer.bitCount(bits) << 32) + bits);
                }
            }
            return mending.isEmpty() ? NONE : (int) (long) mending.first();
        } catch (Refusal refusal) {
            return refusal.answer;
        }
    }

    private boolean isSoundWith(int bits) {
        try {
            return momentOf(all(bits))[0] == NONE;
        } catch (Refusal refusal) {
            return false;
        }
    }

    // ---- runs

    /** One RUN: places in LOOKS and QUEUES with words in them. */
    private static final class Going {
        private final List<List<Act>> looks = new ArrayList<>();
        private final int[] done = new int[6];
        private final int[] limits = new int[6];
        private final List<Deque<Integer>> queues = new ArrayList<>();

        Going(History history) {
            for (int t = 0; t < 6; t++) {
                looks.add(lookOf(t, history));
                limits[t] = looks.get(t).size();
            }
            for (int q = 0; q < 60; q++) {
                queues.add(new ArrayDeque<>());
            }
        }

        boolean can(int t) {
            if (done[t] >= limits[t]) {
                return false;
            }
            Act next = looks.get(t).get(done[t]);
            Integer first = queues.get(next.code() / 100).peekFirst();
            return next.says() || first != null && first == next.word();
        }

        void act(int t) {
            Act next = looks.get(t).get(done[t]++);
            Deque<Integer> queue = queues.get(next.code() / 100);
            if (next.says()) {
                queue.addLast(next.word());
            } else {
                queue.removeFirst();
            }
        }

        List<Integer> able() {
            List<Integer> able = new ArrayList<>();
            for (int t = 0; t < 6; t++) {
                if (can(t)) {
                    able.add(t);
                }
            }
            return able;
        }
    }

    /** The STEPS, and LONGEST so behind them. */
    private List<Integer> runByLots(History history, int seed) {
        Going going = new Going(history);
        List<Integer> steps = new ArrayList<>();
        int most = 0;
        int s = seed;
        for (List<Integer> able = going.able(); !able.isEmpty(); able = going.able()) {
            s = (int) (1103515245L * s + 12345L);
            int upper = (int) ((s & 0xFFFFFFFFL) / 65536L);
            int t = able.get(upper % able.size());
            going.act(t);
            steps.add(t);
            for (Deque<Integer> queue : going.queues) {
                most = Math.max(most, queue.size());
            }
        }
        steps.add(most);
        return steps;
    }

    int run(int history, int seed, int what) {
        try {
            good(history >= 0 && history < 30 && what >= 0 && what <= 1);
            List<Integer> steps = runByLots(history(history), seed);
            return what == 0 ? steps.size() - 1 : steps.get(steps.size() - 1);
        } catch (Refusal refusal) {
            return refusal.answer;
        }
    }

    int step(int history, int seed, int i) {
        try {
            good(history >= 0 && history < 30 && i >= 0);
            List<Integer> steps = runByLots(history(history), seed);
            return i < steps.size() - 1 ? steps.get(i) : NONE;
        } catch (Refusal refusal) {
            return refusal.answer;
        }
    }

    int longest(int history, int from, int to) {
        try {
            good(history >= 0 && history < 30 && from >= 0 && from < 6 && to >= 0 && to < 6 && from != to);
            return mostInAnyRun(history(history), 10 * from + to);
        } catch (Refusal refusal) {
            return refusal.answer;
        }
    }

    /** Every state that any RUN can come to, each once. */
    private static int mostInAnyRun(History history, int queue) {
        Set<List<Integer>> seen = new HashSet<>();
        Deque<List<Integer>> open = new ArrayDeque<>();
        open.add(List.of(0, 0, 0, 0, 0, 0));
        seen.add(open.peek());
        int most = 0;
        while (!open.isEmpty()) {
            List<Integer> state = open.removeFirst();
            Going going = replay(history, state);
            most = Math.max(most, going.queues.get(queue).size());
            for (int t : going.able()) {
                List<Integer> next = new ArrayList<>(state);
                next.set(t, next.get(t) + 1);
                if (seen.add(next)) {
                    open.addLast(next);
                }
            }
        }
        return most;
    }

    private static Going replay(History history, List<Integer> state) {
        Going going = new Going(history);
        for (int t = 0; t < 6; t++) {
            going.limits[t] = state.get(t);
        }
        for (List<Integer> able = going.able(); !able.isEmpty(); able = going.able()) {
            going.act(able.get(0));
        }
        for (int t = 0; t < 6; t++) {
            going.limits[t] = going.looks.get(t).size();
        }
        return going;
    }

    int trips(int history, int what) {
        try {
            good(history >= 0 && history < 30 && what >= 0 && what <= 1);
            History h = history(history);
            if (what == 1) {
                return packed(h);
            }
            int most = 0;
            for (int word = 0; word < h.codes().size(); word++) {
                most = Math.max(most, chainFrom(h, word, new int[24]));
            }
            return most;
        } catch (Refusal refusal) {
            return refusal.answer;
        }
    }

    private static int chainFrom(History h, int word, int[] known) {
        if (known[word] == 0) {
            int best = 0;
            boolean got = false;
            for (Act act : lookOf(h.codes().get(word) / 100 % 10, h)) {
                if (got && act.says()) {
                    best = Math.max(best, chainFrom(h, act.word(), known));
                }
                got |= act.word() == word;
            }
            known[word] = best + 1;
        }
        return known[word];
    }

    private static int wordAhead(int talker, int word, History h) {
        int ahead = NONE;
        for (Act act : lookOf(talker, h)) {
            if (act.word() == word) {
                return ahead;
            }
            ahead = act.word();
        }
        return ahead;
    }

    private static int packed(History h) {
        int left = h.codes().size();
        for (int word = 0; word < h.codes().size(); word++) {
            int code = h.codes().get(word);
            int ahead = wordAhead(code / 1000, word, h);
            boolean same = ahead == wordAhead(code / 100 % 10, word, h);
            if (ahead != NONE && same && h.codes().get(ahead) / 100 == code / 100) {
                left--;
            }
        }
        return left;
    }

    int lost(int history, int talker, int k, int what) {
        try {
            good(history >= 0 && history < 30 && talker >= 0 && talker < 6 && k >= 0 && what >= 0 && what <= 1);
            Going going = new Going(history(history));
            going.limits[talker] = Math.min(going.limits[talker], k);
            for (List<Integer> able = going.able(); !able.isEmpty(); able = going.able()) {
                going.act(able.get(able.size() - 1));
            }
            int stuck = 0;
            for (int t = 0; t < 6; t++) {
                if (t != talker && going.done[t] < going.looks.get(t).size()) {
                    stuck += 1 << t;
                }
            }
            return what == 0 ? stuck : going.queues.stream().mapToInt(Deque::size).sum();
        } catch (Refusal refusal) {
            return refusal.answer;
        }
    }

    // ---- programs

    private static List<List<String>> written(int talker, List<History> histories) {
        List<List<String>> rows = new ArrayList<>();
        for (History h : histories) {
            List<String> row = new ArrayList<>();
            for (Act act : lookOf(talker, h)) {
                int other = act.says() ? act.code() / 100 % 10 : act.code() / 1000;
                row.add((act.says() ? "!" : "?") + (char) ('A' + other) + (char) ('a' + act.code() % 100));
            }
            rows.add(row);
        }
        return rows;
    }

    private static Set<String> nextIn(List<List<String>> rows, List<String> begin) {
        Set<String> next = new HashSet<>();
        for (List<String> row : rows) {
            if (row.size() >= begin.size() && row.subList(0, begin.size()).equals(begin)) {
                next.add(row.size() == begin.size() ? "end" : row.get(begin.size()));
            }
        }
        return next;
    }

    private static Set<String> only(Set<String> acts, String sign) {
        Set<String> some = new HashSet<>(acts);
        some.removeIf(act -> !act.startsWith(sign));
        return some;
    }

    int breach(int talker) {
        try {
            good(talker >= 0 && talker < 6);
            if (faultOf(0) != NONE || faultOf(1) != NONE) {
                return NOT;
            }
            List<List<String>> looks = written(talker, all());
            List<List<String>> rows = readProgram();
            int least = NONE;
            for (List<String> row : rows) {
                for (int length = 0; length <= row.size(); length++) {
                    List<String> begin = row.subList(0, length);
                    Set<String> byLooks = nextIn(looks, begin);
                    Set<String> byRows = nextIn(rows, begin);
                    if (!byLooks.isEmpty() && !isFine(byLooks, byRows) && (least == NONE || length < least)) {
                        least = length;
                    }
                }
            }
            return least;
        } catch (Refusal refusal) {
            return refusal.answer;
        }
    }

    private static boolean isFine(Set<String> byLooks, Set<String> byRows) {
        boolean mustSay = !only(byLooks, "!").isEmpty() && only(byLooks, "?").isEmpty() && !byLooks.contains("end");
        return byRows.containsAll(only(byLooks, "?"))
            && byLooks.containsAll(only(byRows, "!"))
            && !(mustSay && only(byRows, "!").isEmpty());
    }

    int fits(int talker) {
        int length = breach(talker);
        return length == NONE ? 1 : length >= 0 ? 0 : length;
    }

    // ---- logs

    int log(int s) {
        if (s < 0 || s > 3) {
            return BAD;
        }
        if (sheets[s] == null) {
            return found(1);
        }
        int came = 0;
        for (int i = 0; i < java.lang.reflect.Array.getLength(sheets[s]); i++) {
            int code = java.lang.reflect.Array.getInt(sheets[s], i);
            String digits = String.format("%04d", code);
            boolean may = digits.matches("[0-5][0-5][0-2][0-9]") && digits.charAt(0) != digits.charAt(1);
            if (!may || log.size() == 40) {
                break;
            }
            log.add(code);
            came++;
        }
        return came;
    }

    int clear() {
        int had = log.size();
        log.clear();
        return had;
    }

    private List<History> leftBy(List<History> histories, int n) {
        List<History> left = new ArrayList<>();
        for (History h : histories) {
            boolean fits = true;
            for (int pair = 0; pair < 60; pair++) {
                List<Integer> logged = between(log.subList(0, n), pair);
                List<Integer> words = between(h.codes(), pair);
                fits &= logged.size() <= words.size() && words.subList(0, logged.size()).equals(logged);
            }
            if (fits) {
                left.add(h);
            }
        }
        return left;
    }

    private static List<Integer> between(List<Integer> codes, int pair) {
        return codes.stream().filter(code -> code / 100 == pair).toList();
    }

    int left(int n) {
        try {
            good(n >= 0 && n <= log.size());
            List<History> histories = all();
            int bits = 0;
            for (History h : leftBy(histories, n)) {
                for (int i = 0; i < histories.size(); i++) {
                    bits |= histories.get(i) == h ? 1 << i : 0;
                }
            }
            return bits;
        } catch (Refusal refusal) {
            return refusal.answer;
        }
    }

    private int firstOut(List<History> histories) {
        for (int i = 0; i < log.size(); i++) {
            if (leftBy(histories, i + 1).isEmpty()) {
                return i;
            }
        }
        return NONE;
    }

    int out(int what) {
        try {
            good(what >= 0 && what <= 1);
            int out = firstOut(all());
            return what == 0 || out == NONE ? out : log.get(out) / 1000;
        } catch (Refusal refusal) {
            return refusal.answer;
        }
    }

    int ask() {
        try {
            List<History> histories = all();
            int out = firstOut(histories);
            List<History> left = leftBy(histories, out == NONE ? log.size() : out);
            if (left.size() == 1) {
                return NONE;
            }
            int best = 0;
            for (int t = 1; t < 6; t++) {
                best = unlike(t, left) > unlike(best, left) ? t : best;
            }
            return best;
        } catch (Refusal refusal) {
            return refusal.answer == FULL ? NONE : refusal.answer;
        }
    }

    // ---- sheets

    private int found(int number) {
        finding = number;
        return -10 - number;
    }

    private static boolean noSheet(int s) {
        return s < 0 || s > 3;
    }

    int sheet(int s, int form, int n) {
        if (noSheet(s) || form < 0 || form > 2 || n > 60) {
            return BAD;
        }
        try {
            sheets[s] = form == 0 ? new byte[n] : form == 1 ? new short[n] : new int[n];
            return n;
        } catch (NegativeArraySizeException e) {
            return found(5);
        }
    }

    int lose(int s) {
        if (noSheet(s)) {
            return BAD;
        }
        if (sheets[s] == null) {
            return found(1);
        }
        int had = java.lang.reflect.Array.getLength(sheets[s]);
        sheets[s] = null;
        return had;
    }

    /** What the machine itself finds about an item; 0: nothing. */
    private int store(int s, int form, int i, int v) {
        try {
            if (form == 0) {
                ((byte[]) sheets[s])[i] = (byte) v;
            } else if (form == 1) {
                ((short[]) sheets[s])[i] = (short) v;
            } else {
                ((int[]) sheets[s])[i] = v;
            }
            return 0;
        } catch (NullPointerException e) {
            return 1;
        } catch (ArrayIndexOutOfBoundsException e) {
            return 2;
        } catch (ClassCastException e) {
            return 3;
        }
    }

    int put(int s, int form, int i, int v) {
        if (noSheet(s) || form < 0 || form > 2) {
            return BAD;
        }
        int wrong = store(s, form, i, v);
        return wrong == 0 ? 1 : found(wrong);
    }

    int get(int s, int form, int i) {
        if (noSheet(s) || form < 0 || form > 2) {
            return Integer.MIN_VALUE;
        }
        try {
            return form == 0 ? ((byte[]) sheets[s])[i] : form == 1 ? ((short[]) sheets[s])[i] : ((int[]) sheets[s])[i];
        } catch (NullPointerException e) {
            found(1);
        } catch (ArrayIndexOutOfBoundsException e) {
            found(2);
        } catch (ClassCastException e) {
            found(3);
        }
        return Integer.MIN_VALUE;
    }

    int copy(int s, int i, int t, int j, int n) {
        if (noSheet(s) || noSheet(t)) {
            return BAD;
        }
        try {
            System.arraycopy(sheets[s], i, sheets[t], j, n);
            return 1;
        } catch (NullPointerException e) {
            return found(1);
        } catch (ArrayStoreException e) {
            return found(4);
        } catch (IndexOutOfBoundsException e) {
            return found(2);
        }
    }

    int write(int s, int history) {
        try {
            good(!noSheet(s) && history >= 0 && history < 30);
            if (sheets[s] == null) {
                return found(1);
            }
            List<Integer> codes = history(history).codes();
            int many = 0;
            while (many < codes.size() && many < java.lang.reflect.Array.getLength(sheets[s])) {
                int form = sheets[s] instanceof byte[] ? 0 : sheets[s] instanceof short[] ? 1 : 2;
                store(s, form, many, codes.get(many));
                many++;
            }
            return many;
        } catch (Refusal refusal) {
            return refusal.answer;
        }
    }

    int count(int what) {
        return switch (what) {
            case 0 -> plan.length();
            case 1 -> program.length();
            case 2 -> told;
            case 3 -> log.size();
            case 4 -> histories();
            case 5 -> sound();
            case 8 -> finding;
            default -> BAD;
        };
    }

    long digest() {
        List<Long> all = new ArrayList<>();
        for (int what = 0; what <= 5; what++) {
            all.add((long) count(what));
        }
        all.add((long) fault(0));
        all.add((long) fault(1));
        for (int h = 0; h < histories(); h++) {
            for (int i = NONE; i < said(h, NONE); i++) {
                all.add((long) said(h, i));
            }
            all.add((long) trips(h, 0));
        }
        for (int what = 0; what < 4; what++) {
            all.add((long) moment(what));
        }
        all.add((long) out(0));
        long h = 17;
        for (long each : all) {
            h = 31 * h + each;
        }
        return h;
    }
}
