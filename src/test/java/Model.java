import java.util.ArrayList;
import java.util.Arrays;
import java.util.List;
import java.util.NoSuchElementException;
import java.util.TreeSet;
import java.util.regex.Matcher;
import java.util.regex.Pattern;

/**
 * The document again, told in another way (lists, plain searches without short cuts, patterns),
 * so that what the class answers can be held against it.
 */
final class Model {
    static final int NONE = -1;

    /** What is kept and undone. */
    static final class State {
        int day;
        List<Integer> heap = new ArrayList<>();
        List<List<Integer>> columns = new ArrayList<>();
        List<int[]> loans = new ArrayList<>();   // book, reader, due
        List<Integer> lost = new ArrayList<>();
        int[] fines = new int[4];

        State copy() {
            State s = new State();
            s.day = day;
            s.heap.addAll(heap);
            for (List<Integer> c : columns) {
                s.columns.add(new ArrayList<>(c));
            }
            for (int[] l : loans) {
                s.loans.add(l.clone());
            }
            s.lost.addAll(lost);
            s.fines = fines.clone();
            return s;
        }
    }

    StringBuilder text = new StringBuilder();
    List<Integer> thick = new ArrayList<>();
    List<Integer> weight = new ArrayList<>();
    List<Integer> late = new ArrayList<>();
    String rule = "t*4";
    State s = new State();
    List<State> past = new ArrayList<>();
    State[] kept = new State[2];
    List<Integer> row = new ArrayList<>();
    Integer[] seen = new Integer[6];

    Model() {
        s.columns.add(new ArrayList<>());
    }

    // ---- texts

    int sign(int v) {
        if (text.length() > 76) {
            return NONE;
        }
        text.append((char) (v >>> 24)).append((char) (v >>> 16 & 255))
                .append((char) (v >>> 8 & 255)).append((char) (v & 255));
        return text.length();
    }

    boolean end(int n) {
        if (n < 0 || n > text.length()) {
            return false;
        }
        text.setLength(n);
        return true;
    }

    private String take() {
        String t = text.toString();
        text.setLength(0);
        return t;
    }

    /** The first sign by which the text is no beginning of what the pattern matches. */
    private static int firstBad(String t, String open, String whole, int most) {
        for (int i = 0; i < t.length(); i++) {
            Matcher m = Pattern.compile(open, Pattern.DOTALL).matcher(t.substring(0, i + 1));
            if (i == most || !(m.matches() || m.hitEnd())) {
                return i;
            }
        }
        return t.matches(whole) ? NONE : t.length();
    }

    private static String lines(String line, int room) {
        return room == 0 ? "(?!)" : line + "(;" + line + "){0," + (room - 1) + "}";
    }

    int books() {
        String t = take();
        if (t.isEmpty()) {
            return 0;
        }
        String whole = lines("[1-9][0-9]", 12 - thick.size());
        int bad = thick.size() == 12 ? 0 : firstBad(t, whole + ";?", whole, 36);
        if (bad != NONE) {
            return -1 - bad;
        }
        String[] all = t.split(";");
        for (String l : all) {
            s.heap.add(thick.size());
            thick.add(l.charAt(0) - '0');
            weight.add(l.charAt(1) - '0');
        }
        forgetPast();
        return all.length;
    }

    int readers() {
        String t = take();
        if (t.isEmpty()) {
            return 0;
        }
        String whole = lines("[0-9]", 4 - late.size());
        int bad = late.size() == 4 ? 0 : firstBad(t, whole + ";?", whole, 7);
        if (bad != NONE) {
            return -1 - bad;
        }
        String[] all = t.split(";");
        for (String l : all) {
            late.add(l.charAt(0) - '0');
        }
        forgetPast();
        return all.length;
    }

    private void forgetPast() {
        past.clear();
        kept[0] = null;
        kept[1] = null;
    }

    private boolean wallCanBegin(String t) {
        String[] parts = t.split("/", -1);
        if (parts.length > 6) {
            return false;
        }
        String letters = t.replaceAll("[-/]", "");
        for (char c : letters.toCharArray()) {
            if (c < 'a' || c >= 'a' + thick.size() || letters.indexOf(c) != letters.lastIndexOf(c)) {
                return false;
            }
        }
        for (int i = 0; i < parts.length; i++) {
            boolean last = i == parts.length - 1;
            if (!parts[i].matches(last ? "|-|[a-l]{1,4}" : "-|[a-l]{1,4}")) {
                return false;
            }
        }
        return true;
    }

    int wall() {
        String t = take();
        for (int i = 1; i <= t.length(); i++) {
            if (!wallCanBegin(t.substring(0, i))) {
                return -i;
            }
        }
        if (t.isEmpty() || t.endsWith("/")) {
            return -1 - t.length();
        }
        State w = new State();
        w.day = s.day;
        w.fines = s.fines;
        for (int b = 0; b < thick.size(); b++) {
            w.heap.add(b);
        }
        for (String part : t.split("/")) {
            List<Integer> c = new ArrayList<>();
            for (char x : part.toCharArray()) {
                if (x != '-') {
                    c.add(x - 'a');
                    w.heap.remove((Integer) (x - 'a'));
                }
            }
            w.columns.add(c);
        }
        for (int c = 0; c < w.columns.size(); c++) {
            if (!holds(w.columns.get(c), c, rule)) {
                return -200;
            }
        }
        s = w;
        forgetPast();
        Arrays.fill(seen, null);
        return s.columns.size();
    }

    // ---- rules, read from the left by one that looks at the next sign

    private static final class BadSign extends RuntimeException {
        private static final long serialVersionUID = 1L;
        final int at;

        BadSign(int at) {
            super("", null, false, false);
            this.at = at;
        }
    }

    private final class Reckoner {
        final String t;
        final int[] of;   // t w c k n d
        int at;

        Reckoner(String t, int... of) {
            this.t = t;
            this.of = of;
        }

        char next() {
            if (at >= 40 && at < t.length()) {
                throw new BadSign(40);
            }
            return at < t.length() ? t.charAt(at) : (char) 1000;
        }

        int all() {
            int v = expression(0);
            if (at < t.length()) {
                next();
                throw new BadSign(at);
            }
            return v;
        }

        int expression(int depth) {
            int a = sum(depth);
            char o = next();
            if (o != '<' && o != '>' && o != '=') {
                return a;
            }
            at++;
            int b = sum(depth);
            if (next() == '<' || next() == '>' || next() == '=') {
                throw new BadSign(at);
            }
            return (o == '<' ? a < b : o == '>' ? a > b : a == b) ? 1 : 0;
        }

        int sum(int depth) {
            int a = product(depth);
            while (next() == '+' || next() == '-') {
                char o = t.charAt(at++);
                int b = product(depth);
                a = o == '+' ? a + b : a - b;
            }
            return a;
        }

        int product(int depth) {
            int a = thing(depth);
            while (next() == '*' || next() == '/') {
                char o = t.charAt(at++);
                int b = thing(depth);
                a = o == '*' ? a * b : b == 0 ? 0 : a / b;
            }
            return a;
        }

        int thing(int depth) {
            char o = next();
            if (o == '-') {
                at++;
                return -thing(depth);
            }
            if (o == '(' && depth < 4) {
                at++;
                int a = expression(depth + 1);
                if (next() != ')') {
                    throw new BadSign(at);
                }
                at++;
                return a;
            }
            if (o >= '0' && o <= '9') {
                int a = 0;
                for (int i = 0; i < 3 && next() >= '0' && next() <= '9'; i++) {
                    a = a * 10 + t.charAt(at++) - '0';
                }
                return a;
            }
            int name = "twcknd".indexOf(o);
            if (name < 0) {
                throw new BadSign(at);
            }
            at++;
            return of[name];
        }
    }

    /** Where the first bad sign is, or NONE. */
    private int badSignOfRule(String t) {
        try {
            new Reckoner(t, 1, 1, 1, 1, 1, 1).all();
            return NONE;
        } catch (BadSign bad) {
            return bad.at;
        }
    }

    int rule() {
        String t = take();
        if (t.isEmpty()) {
            t = "t*4";
        }
        int bad = badSignOfRule(t);
        if (bad != NONE) {
            return -1 - bad;
        }
        rule = t;
        return 0;
    }

    private int bears(List<Integer> pile, int c, int k, String by) {
        int b = pile.get(k);
        int v = new Reckoner(by, thick.get(b), weight.get(b), c, k, pile.size(), s.day % 10).all();
        return v < 0 ? 0 : v > 999 ? 999 : v;
    }

    private boolean holds(List<Integer> pile, int c, String by) {
        for (int k = 0; k < pile.size(); k++) {
            int above = 0;
            for (int j = k + 1; j < pile.size(); j++) {
                above += weight.get(pile.get(j));
            }
            if (above > bears(pile, c, k, by)) {
                return false;
            }
        }
        return true;
    }

    private int height(List<Integer> pile) {
        return pile.stream().mapToInt(thick::get).sum();
    }

    private int least(State x) {
        return x.columns.stream().mapToInt(this::height).min().getAsInt();
    }

    private static int bits(List<Integer> books) {
        return books.stream().mapToInt(b -> 1 << b).sum();
    }

    private int columnOf(int b) {
        for (int c = 0; c < s.columns.size(); c++) {
            if (s.columns.get(c).contains(b)) {
                return c;
            }
        }
        return NONE;
    }

    private int[] loanOf(int b) {
        for (int[] l : s.loans) {
            if (l[0] == b) {
                return l;
            }
        }
        return null;
    }

    private int lentBits() {
        return s.loans.stream().mapToInt(l -> 1 << l[0]).sum();
    }

    private int tell(int answer, Integer... numbers) {
        row = new ArrayList<>(Arrays.asList(numbers));
        return answer;
    }

    // ---- one by one

    int book(int b, int what) {
        if (b < 0 || b >= thick.size() || what < 0 || what > 6) {
            throw new NoSuchElementException();
        }
        int c = columnOf(b);
        int[] l = loanOf(b);
        switch (what) {
            case 0: return thick.get(b);
            case 1: return weight.get(b);
            case 2: return s.heap.contains(b) ? 0 : c >= 0 ? 1 : l != null ? 2 : 3;
            case 3: return c >= 0 ? c : l != null ? l[1] : NONE;
            case 4: return c >= 0 ? s.columns.get(c).indexOf(b) : NONE;
            case 5: return l != null ? l[2] : NONE;
            default: return c >= 0 ? bears(s.columns.get(c), c, s.columns.get(c).indexOf(b), rule) : NONE;
        }
    }

    int column(int c, int what) {
        if (c < 0 || c >= s.columns.size() || what < 0 || what > 4) {
            throw new NoSuchElementException();
        }
        List<Integer> pile = s.columns.get(c);
        switch (what) {
            case 0: return height(pile);
            case 1: return pile.size();
            case 2: return pile.stream().mapToInt(weight::get).sum();
            case 3: return holds(pile, c, rule) ? 1 : 0;
            default: return pile.isEmpty() ? NONE : pile.get(pile.size() - 1);
        }
    }

    int reader(int r, int what) {
        if (r < 0 || r >= late.size() || what < 0 || what > 2) {
            throw new NoSuchElementException();
        }
        return what == 0 ? late.get(r) : what == 1 ? s.fines[r]
                : s.loans.stream().filter(l -> l[1] == r).mapToInt(l -> 1 << l[0]).sum();
    }

    int sheet(int kind, int n, int f, int step) {
        if (kind < 0 || kind > 3 || n > 12) {
            return NONE;
        }
        if (kind < 3 && n < 0) {
            return -2;
        }
        List<Integer> entries = new ArrayList<>();
        int at = f;
        for (int i = 0; i < n && kind < 3; i++) {
            int e = kind == 0 ? (byte) at : kind == 1 ? (short) at : at;
            entries.add(e < 1 ? 1 : e > 9 ? 9 : e);
            at += step;
        }
        for (int b = 0; b < thick.size(); b++) {
            thick.set(b, b < entries.size() ? entries.get(b) : 1);
        }
        return kind == 3 ? -3 : thick.stream().mapToInt(x -> x).sum();
    }

    private int doLay(State x, int b, int c) {
        if (b < 0 || b >= thick.size() || c < 0 || c >= x.columns.size()) {
            return NONE;
        }
        if (!x.heap.contains(b)) {
            return -2;
        }
        List<Integer> pile = x.columns.get(c);
        if (pile.size() == 4) {
            return -3;
        }
        List<Integer> then = new ArrayList<>(pile);
        then.add(b);
        int today = s.day;
        s.day = x.day;
        boolean ok = holds(then, c, rule);
        s.day = today;
        if (!ok) {
            return -4;
        }
        pile.add(b);
        x.heap.remove((Integer) b);
        return height(pile);
    }

    private int doLend(int b, int r, int n) {
        if (b < 0 || b >= thick.size() || r < 0 || r >= late.size() || n < 1 || n > 30) {
            return NONE;
        }
        if (loanOf(b) != null || s.lost.contains(b)) {
            return -2;
        }
        if (Integer.bitCount(reader(r, 2)) == 3) {
            return -3;
        }
        s.heap.remove((Integer) b);
        for (List<Integer> c : s.columns) {
            c.remove((Integer) b);
        }
        s.loans.add(new int[] {b, r, s.day + n});
        return s.day + n;
    }

    private int doRecall(int b) {
        if (b < 0 || b >= thick.size()) {
            return NONE;
        }
        int[] l = loanOf(b);
        if (l == null) {
            return -2;
        }
        s.loans.remove(l);
        s.heap.add(b);
        return l[1];
    }

    private int doShot(int c, int n) {
        if (c < 0 || c >= s.columns.size() || n < 1 || n > 4) {
            return NONE;
        }
        List<Integer> pile = s.columns.get(c);
        if (pile.isEmpty()) {
            return -2;
        }
        List<Integer> gone = new ArrayList<>();
        while (!pile.isEmpty() && gone.size() < n) {
            gone.add(pile.remove(pile.size() - 1));
        }
        s.lost.addAll(gone);
        return tell(height(pile), bits(gone));
    }

    private int doDays(int n) {
        if (n < 0 || n > 99) {
            return NONE;
        }
        int back = 0;
        int paid = 0;
        for (int i = 0; i < n; i++) {
            int[] day = dayOf(s);
            back |= day[0];
            paid += day[1];
        }
        return tell(s.day, back, paid);
    }

    private int[] dayOf(State x) {
        x.day++;
        int back = 0;
        int paid = 0;
        for (int i = x.loans.size() - 1; i >= 0; i--) {
            int[] l = x.loans.get(i);
            if (x.day == l[2] + late.get(l[1])) {
                x.loans.remove(i);
                x.heap.add(l[0]);
                x.fines[l[1]] += late.get(l[1]);
                back |= 1 << l[0];
                paid += late.get(l[1]);
            }
        }
        return new int[] {back, paid};
    }

    private int kept(State before, int answer) {
        if (answer >= 0) {
            past.add(before);
            if (past.size() > 12) {
                past.remove(0);
            }
        }
        return answer;
    }

    int lay(int b, int c) {
        State before = s.copy();
        return kept(before, doLay(s, b, c));
    }

    int lend(int b, int r, int n) {
        State before = s.copy();
        return kept(before, doLend(b, r, n));
    }

    int recall(int b) {
        State before = s.copy();
        return kept(before, doRecall(b));
    }

    int shot(int c, int n) {
        State before = s.copy();
        return kept(before, doShot(c, n));
    }

    int days(int n) {
        State before = s.copy();
        int answer = doDays(n);
        return n == 0 ? answer : kept(before, answer);
    }

    int siege() {
        String t = take();
        String act = "(l[a-l][0-9]|o[a-l][0-9][0-9]{1,2}|r[a-l]|s[0-9][0-9]|d[0-9]{1,2})";
        String whole = act + "(;" + act + ")*";
        int bad = t.isEmpty() ? NONE : firstBad(t, whole + ";?", whole, 60);
        if (bad != NONE) {
            return -1 - bad;
        }
        State before = s.copy();
        int done = 0;
        boolean stopped = false;
        for (String a : t.isEmpty() ? new String[0] : t.split(";")) {
            int x = a.charAt(1) - (a.charAt(0) == 's' ? '0' : 'a');
            int y = a.length() > 2 ? a.charAt(2) - '0' : 0;
            int answer;
            switch (a.charAt(0)) {
                case 'l': answer = doLay(s, x, y); break;
                case 'o': answer = doLend(x, y, Integer.parseInt(a.substring(3))); break;
                case 'r': answer = doRecall(x); break;
                case 's': answer = doShot(x, y); break;
                default: answer = doDays(Integer.parseInt(a.substring(1)));
            }
            if (answer < 0) {
                stopped = true;
                break;
            }
            done++;
        }
        if (done > 0) {
            kept(before, 0);
        }
        return tell(done, stopped ? 1 : 0, s.columns.stream().mapToInt(List::size).sum());
    }

    int undo() {
        if (past.isEmpty()) {
            return NONE;
        }
        s = past.remove(past.size() - 1);
        return past.size();
    }

    // ---- questions

    int low(int h) {
        if (h < 0 || h > 99) {
            return NONE;
        }
        int set = 0;
        int lack = 0;
        for (int c = 0; c < s.columns.size(); c++) {
            int x = height(s.columns.get(c));
            if (x < h) {
                set += 1 << c;
                lack += h - x;
            }
        }
        return tell(set, lack, least(s));
    }

    int weakest() {
        int best = NONE;
        int how = 1000;
        for (int b = 0; b < thick.size(); b++) {
            int c = columnOf(b);
            if (c < 0) {
                continue;
            }
            State x = s.copy();
            x.columns.get(c).remove((Integer) b);
            if (least(x) < how) {
                how = least(x);
                best = b;
            }
        }
        return best == NONE ? -2 : tell(best, how, least(s));
    }

    int room(int c) {
        if (c < 0 || c >= s.columns.size()) {
            return NONE;
        }
        List<Integer> pile = s.columns.get(c);
        if (!holds(pile, c, rule)) {
            return -2;
        }
        for (int more = 0; more <= 999; more++) {
            for (int k = pile.size() - 1; k >= 0; k--) {
                int above = more;
                for (int j = k + 1; j < pile.size(); j++) {
                    above += weight.get(pile.get(j));
                }
                if (above == bears(pile, c, k, rule)) {
                    return tell(more, pile.get(k));
                }
            }
        }
        return tell(999, NONE);
    }

    int home() {
        State x = s.copy();
        int n = 0;
        int last = NONE;
        while (!x.loans.isEmpty()) {
            int back = dayOf(x)[0];
            n++;
            if (back != 0) {
                last = 31 - Integer.numberOfLeadingZeros(back);
            }
        }
        return tell(n, last);
    }

    int spares(int h) {
        if (h < 0 || h > 99) {
            return NONE;
        }
        int in = 0;
        for (List<Integer> pile : s.columns) {
            in |= bits(pile);
        }
        int best = 0;
        for (int set = 1; set < 4096; set++) {
            if ((set & ~in) == 0 && Integer.bitCount(set) > Integer.bitCount(best) && canBeSpared(set, h)) {
                best = set;
            }
        }
        return tell(Integer.bitCount(best), best);
    }

    private boolean canBeSpared(int set, int h) {
        for (int c = 0; c < s.columns.size(); c++) {
            List<Integer> pile = s.columns.get(c);
            List<Integer> rest = new ArrayList<>(pile);
            rest.removeIf(b -> (set >> b & 1) == 1);
            if (rest.size() == pile.size()) {
                continue;
            }
            boolean high = height(pile) >= h;
            boolean held = holds(pile, c, rule);
            if (!high || height(rest) < h || (held && !holds(rest, c, rule))) {
                return false;
            }
        }
        return true;
    }

    int spare(int c) {
        if (c < 0 || c >= s.columns.size()) {
            return NONE;
        }
        int best = NONE;
        int how = -1;
        for (int b : s.columns.get(c)) {
            List<Integer> rest = new ArrayList<>(s.columns.get(c));
            rest.remove((Integer) b);
            if (holds(rest, c, rule) && height(rest) > how) {
                how = height(rest);
                best = b;
            }
        }
        return best == NONE ? -2 : tell(best, how);
    }

    private static boolean isLess(List<Integer> a, List<Integer> b) {
        for (int i = 0; i < a.size(); i++) {
            if (!a.get(i).equals(b.get(i))) {
                return a.get(i) < b.get(i);
            }
        }
        return false;
    }

    private List<Integer> bestSteps;
    private int bestLeast;

    /** All ways to lay some of those books, in the order of their numbers. */
    private void layAll(State x, List<Integer> those, int from, List<Integer> steps, int h) {
        if (least(x) >= h && (bestSteps == null || steps.size() < bestSteps.size()
                || (steps.size() == bestSteps.size() && isLess(steps, bestSteps)))) {
            bestSteps = new ArrayList<>(steps);
        }
        bestLeast = Math.max(bestLeast, least(x));
        for (int i = from; i < those.size(); i++) {
            for (int c = 0; c < x.columns.size(); c++) {
                if (doLay(x, those.get(i), c) < 0) {
                    continue;
                }
                steps.add(those.get(i));
                steps.add(c);
                layAll(x, those, i + 1, steps, h);
                steps.remove(steps.size() - 1);
                steps.remove(steps.size() - 1);
                x.columns.get(c).remove(those.get(i));
                x.heap.add(those.get(i));
            }
        }
    }

    private int fewest(List<Integer> those, int h) {
        if (those.size() > 6) {
            return -3;
        }
        State x = s.copy();
        x.heap = new ArrayList<>(those);
        those.sort(null);
        bestSteps = null;
        bestLeast = 0;
        layAll(x, those, 0, new ArrayList<>(), h);
        return bestSteps == null ? -2 : bestSteps.size() / 2;
    }

    int build(int h) {
        int n = h < 0 || h > 99 ? NONE : fewest(new ArrayList<>(s.heap), h);
        return n < 0 ? n : tell(n, bestSteps.toArray(new Integer[0]));
    }

    int tallest() {
        if (fewest(new ArrayList<>(s.heap), 0) == -3) {
            return -3;
        }
        int h = bestLeast;
        return tell(h, fewest(new ArrayList<>(s.heap), h));
    }

    int calls(int h) {
        List<Integer> lent = new ArrayList<>();
        for (int[] l : s.loans) {
            lent.add(l[0]);
        }
        int n = h < 0 || h > 99 ? NONE : fewest(lent, h);
        return n < 0 ? n : tell(n, bestSteps.toArray(new Integer[0]));
    }

    int stack(int those, int c) {
        if (those < 0 || those >= 1 << thick.size() || c < 0 || c >= s.columns.size()) {
            return NONE;
        }
        if (those == 0 || Integer.bitCount(those) > 4) {
            return -2;
        }
        List<List<Integer>> orders = new ArrayList<>();
        orders.add(new ArrayList<>());
        for (int b = 0; b < 12; b++) {
            if ((those >> b & 1) == 0) {
                continue;
            }
            List<List<Integer>> longer = new ArrayList<>();
            for (List<Integer> o : orders) {
                for (int i = 0; i <= o.size(); i++) {
                    List<Integer> l = new ArrayList<>(o);
                    l.add(i, b);
                    longer.add(l);
                }
            }
            orders = longer;
        }
        List<Integer> best = null;
        int n = 0;
        for (List<Integer> o : orders) {
            if (holds(o, c, rule)) {
                n++;
                best = best == null || isLess(o, best) ? o : best;
            }
        }
        return tell(n, best == null ? new Integer[0] : best.toArray(new Integer[0]));
    }

    int play(int n) {
        if (n < 1 || n > 4) {
            return NONE;
        }
        if (s.heap.size() > 4) {
            return -3;
        }
        int best = 1000;
        int first = NONE;
        for (int c = 0; c < s.columns.size(); c++) {
            State x = s.copy();
            if (x.columns.get(c).isEmpty()) {
                continue;
            }
            x.columns.get(c).remove(x.columns.get(c).size() - 1);
            int v = turn(x, n - 1, false);
            if (v < best) {
                best = v;
                first = c;
            }
        }
        return tell(first == NONE ? turn(s.copy(), n - 1, false) : best, first);
    }

    private int turn(State x, int left, boolean enemy) {
        if (left == 0) {
            return least(x);
        }
        if (enemy) {
            int best = 1000;
            for (int c = 0; c < x.columns.size(); c++) {
                List<Integer> pile = x.columns.get(c);
                if (!pile.isEmpty()) {
                    int b = pile.remove(pile.size() - 1);
                    best = Math.min(best, turn(x, left - 1, false));
                    pile.add(b);
                }
            }
            return best == 1000 ? turn(x, left - 1, false) : best;
        }
        int best = turn(x, left - 1, true);
        for (Integer b : new ArrayList<>(x.heap)) {
            for (int c = 0; c < x.columns.size(); c++) {
                if (doLay(x, b, c) >= 0) {
                    best = Math.max(best, turn(x, left - 1, true));
                    x.columns.get(c).remove(b);
                    x.heap.add(b);
                }
            }
        }
        return best;
    }

    int law() {
        String t = take();
        if (t.isEmpty()) {
            t = "t*4";
        }
        int bad = badSignOfRule(t);
        if (bad != NONE) {
            return -10000 - bad;
        }
        int by = 0;
        int byRule = 0;
        int more = 0;
        for (int c = 0; c < s.columns.size(); c++) {
            List<Integer> pile = s.columns.get(c);
            by += holds(pile, c, t) ? 1 << c : 0;
            byRule += holds(pile, c, rule) ? 1 << c : 0;
            for (int k = 0; k < pile.size(); k++) {
                more += bears(pile, c, k, t) - bears(pile, c, k, rule);
            }
        }
        return tell(by, byRule, more);
    }

    private int seenBits() {
        int set = 0;
        for (int c = 0; c < 6; c++) {
            set += seen[c] != null ? 1 << c : 0;
        }
        return set;
    }

    int seen(int c, int v) {
        if (c < 0 || c >= s.columns.size() || v < 0 || v > 99) {
            return NONE;
        }
        seen[c] = v;
        return Integer.bitCount(seenBits());
    }

    int forget() {
        int n = Integer.bitCount(seenBits());
        Arrays.fill(seen, null);
        return n;
    }

    private List<Integer> subsetsOf(List<Integer> pile) {
        List<Integer> all = new ArrayList<>();
        for (int set = 0; set < 4096; set++) {
            if ((set & ~bits(pile)) == 0) {
                all.add(set);
            }
        }
        return all;
    }

    private int heightOfBits(int set) {
        int h = 0;
        for (int b = 0; b < 12; b++) {
            h += (set >> b & 1) == 1 ? thick.get(b) : 0;
        }
        return h;
    }

    int out(int c) {
        if (c < 0 || c >= s.columns.size()) {
            return NONE;
        }
        if (seen[c] == null) {
            return -2;
        }
        List<Integer> pile = s.columns.get(c);
        int n = 0;
        int first = NONE;
        int common = 4095;
        for (int set : subsetsOf(pile)) {
            if (height(pile) - heightOfBits(set) == seen[c]) {
                n++;
                first = first == NONE ? set : first;
                common &= set;
            }
        }
        return tell(n, first, n == 0 ? 0 : common);
    }

    int look() {
        int best = NONE;
        int most = 0;
        for (int c = 0; c < s.columns.size(); c++) {
            TreeSet<Integer> heights = new TreeSet<>();
            for (int set : subsetsOf(s.columns.get(c))) {
                heights.add(heightOfBits(set));
            }
            if (seen[c] == null && heights.size() > most) {
                most = heights.size();
                best = c;
            }
        }
        return best == NONE ? -2 : tell(best, most);
    }

    int rests(int v, int f) {
        if (v < 0 || v > 9 || f < 0 || f > 9) {
            return NONE;
        }
        int n = 0;
        Integer[] first = {};
        for (int x = 9; x >= 0; x--) {
            for (int y = 9; y >= 0; y--) {
                boolean rest = true;
                for (int z = 0; z < 10; z++) {
                    rest &= has(z, y, v, f) <= has(x, y, v, f) && has(z, x, v, f) <= has(y, x, v, f);
                }
                if (rest) {
                    n++;
                    first = new Integer[] {x, y};
                }
            }
        }
        return tell(n, first);
    }

    private static int has(int mine, int his, int v, int f) {
        return (mine > his ? v : mine < his ? 0 : v / 2) - f * mine;
    }

    private int r;

    private int draw(int n) {
        r = r * 1103515245 + 12345;
        return (int) ((r & 0xFFFFFFFFL) / 65536 % n);
    }

    int years(int seed, int n) {
        if (thick.isEmpty()) {
            return -2;
        }
        if (n < 1 || n > 60) {
            return NONE;
        }
        r = seed;
        State x = s.copy();
        int laid = 0;
        int lost = 0;
        int low = 1000;
        for (int i = 0; i < n; i++) {
            List<Integer> pile = x.columns.get(draw(x.columns.size()));
            if (!pile.isEmpty()) {
                x.lost.add(pile.remove(pile.size() - 1));
                lost++;
            }
            int b = draw(thick.size());
            int c = draw(x.columns.size());
            laid += doLay(x, b, c) >= 0 ? 1 : 0;
            dayOf(x);
            low = Math.min(low, least(x));
        }
        return tell(laid, lost, low);
    }

    // ---- kept

    boolean keep(int i) {
        if (i != 0 && i != 1) {
            return false;
        }
        kept[i] = s.copy();
        return true;
    }

    boolean again(int i) {
        if ((i != 0 && i != 1) || kept[i] == null) {
            return false;
        }
        s = kept[i].copy();
        past.clear();
        return true;
    }

    int count(int what) {
        switch (what) {
            case 0: return thick.size();
            case 1: return s.columns.size();
            case 2: return late.size();
            case 3: return s.day;
            case 4: return bits(s.heap);
            case 5: return s.columns.stream().mapToInt(Model::bits).sum();
            case 6: return lentBits();
            case 7: return bits(s.lost);
            case 8: return least(s);
            case 9: return seenBits();
            case 10: return past.size();
            case 11: return row.size();
            case 12: return text.length();
            default: return NONE;
        }
    }

    int row(int i) {
        if (i < 0 || i >= row.size()) {
            throw new NoSuchElementException();
        }
        return row.get(i);
    }
}
