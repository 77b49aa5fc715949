import java.util.NoSuchElementException;
import java.util.Random;

/** Long runs of drawn calls, each answer and all that can be asked held against the Model. */
public final class ModelTest {
    private static final int RUNS = 400;
    private static final int CALLS = 120;
    private static final long THROWS = Long.MIN_VALUE;
    private static int wrong;

    private final Random random;
    private final int run;
    private final WallsOfBooks x = new WallsOfBooks();
    private final Model m = new Model();
    private final StringBuilder told = new StringBuilder();

    private ModelTest(int run) {
        this.run = run;
        this.random = new Random(run);
    }

    public static void main(String[] args) {
        for (int run = 0; run < RUNS && wrong < 10; run++) {
            new ModelTest(run).go();
        }
        System.out.println(wrong == 0 ? "drawn runs are as the model has them" : wrong + " wrong");
        if (wrong != 0) {
            System.exit(1);
        }
    }

    private void go() {
        text(drawBooks(12));
        due("books", x.books(), m.books());
        text(drawReaders(4));
        due("readers", x.readers(), m.readers());
        if (random.nextBoolean()) {
            text(drawRule());
            due("rule", x.rule(), m.rule());
        }
        text(drawWall());
        due("wall", x.wall(), m.wall());
        int before = wrong;
        for (int i = 0; i < CALLS && wrong == before; i++) {
            call();
            lookAtAll(i % 8 == 0 ? 1 : 0);
        }
    }

    private int upTo(int n) {
        return random.nextInt(n);
    }

    /** Mostly a number that can be, now and then one beside or far away. */
    private int near(int n) {
        int dice = upTo(20);
        return dice == 0 ? -1 : dice == 1 ? n : dice == 2 && upTo(4) == 0 ? random.nextInt() : upTo(Math.max(1, n));
    }

    private void call() {
        switch (upTo(44)) {
            case 0: case 1: case 2: case 3: case 4: {
                int b = aBook(0), c = near(m.s.columns.size());
                due("lay " + b + " " + c, x.lay(b, c), m.lay(b, c));
                break;
            }
            case 5: case 6: case 7: {
                int b = near(m.thick.size()), r = near(m.late.size()), n = upTo(3) == 0 ? near(31) : 1 + upTo(6);
                due("lend " + b + " " + r + " " + n, x.lend(b, r, n), m.lend(b, r, n));
                break;
            }
            case 8: {
                int b = aBook(2);
                due("recall " + b, x.recall(b), m.recall(b));
                break;
            }
            case 9: {
                int c = near(m.s.columns.size()), n = upTo(3) == 0 ? near(5) : 1;
                due("shot " + c + " " + n, x.shot(c, n), m.shot(c, n));
                break;
            }
            case 10: case 11: {
                int n = upTo(6) == 0 ? near(100) : upTo(4);
                due("days " + n, x.days(n), m.days(n));
                break;
            }
            case 12: case 13: {
                text(spoilt(drawSiege()));
                due("siege", x.siege(), m.siege());
                break;
            }
            case 14: case 15: due("undo", x.undo(), m.undo()); break;
            case 16: {
                int h = upTo(2) == 0 ? near(100) : upTo(20);
                due("low " + h, x.low(h), m.low(h));
                break;
            }
            case 17: due("weakest", x.weakest(), m.weakest()); break;
            case 18: {
                int c = near(m.s.columns.size());
                due("room " + c, x.room(c), m.room(c));
                break;
            }
            case 19: due("home", x.home(), m.home()); break;
            case 20: case 21: {
                int h = upTo(4) == 0 ? near(100) : upTo(12);
                due("spares " + h, x.spares(h), m.spares(h));
                break;
            }
            case 22: {
                int c = near(m.s.columns.size());
                due("spare " + c, x.spare(c), m.spare(c));
                break;
            }
            case 23: {
                int h = upTo(4) == 0 ? near(100) : m.count(8) + upTo(8);
                if (m.s.heap.size() < 5 || m.s.columns.size() < 3 || m.s.heap.size() > 6 || upTo(30) == 0) {
                    due("build " + h, x.build(h), m.build(h));
                }
                break;
            }
            case 24: {
                if (m.s.heap.size() < 5 || m.s.columns.size() < 3 || m.s.heap.size() > 6 || upTo(30) == 0) {
                    due("tallest", x.tallest(), m.tallest());
                }
                break;
            }
            case 25: case 26: {
                int h = upTo(4) == 0 ? near(100) : m.count(8) + upTo(6);
                if (m.s.loans.size() < 5 || m.s.columns.size() < 3 || m.s.loans.size() > 6 || upTo(10) == 0) {
                    due("calls " + h, x.calls(h), m.calls(h));
                }
                break;
            }
            case 27: case 28: {
                int those = upTo(10) == 0 ? random.nextInt() : upTo(1 << m.thick.size()) & random.nextInt();
                int c = near(m.s.columns.size());
                due("stack " + those + " " + c, x.stack(those, c), m.stack(those, c));
                break;
            }
            case 29: {
                int n = near(5);
                if (n < 4 || upTo(8) == 0) {
                    due("play " + n, x.play(n), m.play(n));
                }
                break;
            }
            case 30: text(spoilt(drawRule())); due("law", x.law(), m.law()); break;
            case 31: if (upTo(3) == 0) { text(spoilt(drawRule())); due("rule", x.rule(), m.rule()); } break;
            case 32: case 33: {
                int c = near(m.s.columns.size()), v = upTo(4) == 0 ? near(100) : upTo(15);
                due("seen " + c + " " + v, x.seen(c, v), m.seen(c, v));
                break;
            }
            case 34: if (upTo(4) == 0) { due("forget", x.forget(), m.forget()); } break;
            case 35: case 36: {
                int c = near(m.s.columns.size());
                due("out " + c, x.out(c), m.out(c));
                break;
            }
            case 37: due("look", x.look(), m.look()); break;
            case 38: {
                int v = near(10), f = near(10);
                due("rests " + v + " " + f, x.rests(v, f), m.rests(v, f));
                break;
            }
            case 39: {
                int seed = random.nextInt(), n = upTo(5) == 0 ? near(61) : 1 + upTo(8);
                due("years " + seed + " " + n, x.years(seed, n), m.years(seed, n));
                break;
            }
            case 40: {
                int i = near(2);
                due("keep " + i, x.keep(i) ? 1 : 0, m.keep(i) ? 1 : 0);
                break;
            }
            case 41: {
                int i = near(2);
                due("again " + i, x.again(i) ? 1 : 0, m.again(i) ? 1 : 0);
                break;
            }
            case 42: rareTexts(); break;
            default: {
                int kind = near(4), n = near(13), f = upTo(3) == 0 ? random.nextInt() : upTo(12) - 1;
                int step = upTo(3) == 0 ? random.nextInt() : upTo(5) - 2;
                if (upTo(3) == 0) {
                    due("sheet " + kind + " " + n + " " + f + " " + step,
                            x.sheet(kind, n, f, step), m.sheet(kind, n, f, step));
                }
            }
        }
    }

    private void rareTexts() {
        switch (upTo(4)) {
            case 0: text(spoilt(drawBooks(3))); due("books", x.books(), m.books()); break;
            case 1: text(spoilt(drawReaders(2))); due("readers", x.readers(), m.readers()); break;
            case 2: text(spoilt(drawWall())); due("wall", x.wall(), m.wall()); break;
            default: {
                int v = random.nextInt(), n = near(30);
                due("sign " + v, x.sign(v), m.sign(v));
                due("end " + n, x.end(n) ? 1 : 0, m.end(n) ? 1 : 0);
            }
        }
    }

    private int aBook(int what) {
        for (int i = 0; i < 6; i++) {
            int b = near(m.thick.size());
            if (b >= 0 && b < m.thick.size() && m.book(b, 2) == what) {
                return b;
            }
        }
        return near(m.thick.size());
    }

    private String drawBooks(int most) {
        StringBuilder s = new StringBuilder();
        int n = upTo(most + 1);
        for (int i = 0; i < n; i++) {
            s.append(i > 0 ? ";" : "").append(1 + upTo(upTo(2) == 0 ? 9 : 3)).append(upTo(10));
        }
        return s.toString();
    }

    private String drawReaders(int most) {
        StringBuilder s = new StringBuilder();
        int n = upTo(most + 1);
        for (int i = 0; i < n; i++) {
            s.append(i > 0 ? ";" : "").append(upTo(upTo(2) == 0 ? 10 : 3));
        }
        return s.toString();
    }

    private String drawWall() {
        StringBuilder s = new StringBuilder();
        int n = 1 + upTo(upTo(2) == 0 ? 3 : 6);
        String letters = "abcdefghijkl".substring(0, m.thick.size());
        for (int c = 0; c < n; c++) {
            s.append(c > 0 ? "/" : "");
            int books = Math.min(letters.length(), upTo(4) == 0 ? upTo(6) : upTo(3));
            for (int i = 0; i < books; i++) {
                int at = upTo(letters.length());
                s.append(letters.charAt(at));
                letters = letters.substring(0, at) + letters.substring(at + 1);
            }
            s.append(books == 0 ? "-" : "");
        }
        return s.toString();
    }

    private String drawRule() {
        if (upTo(8) == 0) {
            return "";
        }
        String s = drawExpression(0);
        return s.length() > 40 && upTo(4) > 0 ? drawRule() : s;
    }

    private String drawExpression(int depth) {
        String s = drawSum(depth);
        return upTo(6) == 0 ? s + "<>=".charAt(upTo(3)) + drawSum(depth) : s;
    }

    private String drawSum(int depth) {
        StringBuilder s = new StringBuilder(drawThing(depth));
        for (int i = upTo(4); i > 0; i--) {
            s.append("+-**/".charAt(upTo(5))).append(drawThing(depth));
        }
        return s.toString();
    }

    private String drawThing(int depth) {
        if (upTo(9) == 0) {
            return "-" + drawThing(depth);
        }
        if (upTo(5) == 0 && depth < 5) {
            return "(" + drawExpression(depth + 1) + ")";
        }
        return upTo(3) == 0 ? "" + (upTo(3) == 0 ? upTo(1200) : upTo(10)) : "" + "twcknd".charAt(upTo(6));
    }

    private String drawSiege() {
        StringBuilder s = new StringBuilder();
        for (int i = upTo(upTo(3) == 0 ? 20 : 5); i > 0; i--) {
            char b = (char) ('a' + upTo(Math.max(1, m.thick.size())));
            s.append(s.length() > 0 ? ";" : "");
            switch (upTo(5)) {
                case 0: s.append('l').append(b).append(upTo(m.s.columns.size())); break;
                case 1: s.append('o').append(b).append(upTo(m.late.size() + 1)).append(upTo(32)); break;
                case 2: s.append('r').append(b); break;
                case 3: s.append('s').append(upTo(m.s.columns.size())).append(1 + upTo(2)); break;
                default: s.append('d').append(upTo(4) == 0 ? upTo(110) : upTo(4));
            }
        }
        return s.toString();
    }

    private String spoilt(String t) {
        int dice = upTo(8);
        if (dice == 0 && !t.isEmpty()) {
            return t.substring(0, upTo(t.length()));
        }
        if (dice == 1) {
            int at = upTo(t.length() + 1);
            String some = ";/-()<=+*0123abklmotwdrs9 ~";
            char sign = upTo(6) == 0 ? (char) upTo(256) : some.charAt(upTo(some.length()));
            return t.substring(0, at) + sign + (upTo(2) == 0 || at == t.length() ? t.substring(at) : t.substring(at + 1));
        }
        return t;
    }

    private void text(String t) {
        x.end(0);
        m.end(0);
        String s = t.length() > 80 ? t.substring(0, 80) : t;
        told.append(" [").append(s).append("]");
        for (int i = 0; i < s.length(); i += 4) {
            int v = 0;
            for (int k = i; k < i + 4; k++) {
                v = v << 8 | (k < s.length() ? s.charAt(k) : 0);
            }
            x.sign(v);
            m.sign(v);
        }
        x.end(s.length());
        m.end(s.length());
    }

    private interface Asked {
        long ask();
    }

    private static long orThrows(Asked a) {
        try {
            return a.ask();
        } catch (NoSuchElementException e) {
            return THROWS;
        }
    }

    /** All that there is, and as much beside it on each side. */
    private void lookAtAll(int beside) {
        for (int what = -1; what <= 13; what++) {
            due("count " + what, x.count(what), m.count(what));
        }
        for (int i = -beside; i < m.row.size() + beside; i++) {
            int j = i;
            due("row " + i, orThrows(() -> x.row(j)), orThrows(() -> m.row(j)));
        }
        for (int i = -beside; i < m.thick.size() + beside; i++) {
            int j = i;
            for (int what = -beside; what < 7 + beside; what++) {
                int w = what;
                due("book " + i + " " + w, orThrows(() -> x.book(j, w)), orThrows(() -> m.book(j, w)));
            }
        }
        for (int i = -beside; i < m.s.columns.size() + beside; i++) {
            int j = i;
            for (int what = -beside; what < 5 + beside; what++) {
                int w = what;
                due("column " + i + " " + w, orThrows(() -> x.column(j, w)), orThrows(() -> m.column(j, w)));
            }
        }
        for (int i = -beside; i < m.late.size() + beside; i++) {
            int j = i;
            for (int what = -beside; what < 3 + beside; what++) {
                int w = what;
                due("reader " + i + " " + w, orThrows(() -> x.reader(j, w)), orThrows(() -> m.reader(j, w)));
            }
        }
    }

    private void due(String call, long got, long want) {
        boolean question = call.startsWith("count") || call.startsWith("row")
                || call.startsWith("book ") || call.startsWith("column") || call.startsWith("reader ");
        if (!question) {
            told.append(' ').append(call).append(" -> ").append(got).append(';');
        }
        if (got != want) {
            wrong++;
            System.out.println("run " + run + ": " + call + " answered " + got + ", due is " + want);
            System.out.println("  behind" + told);
        }
    }
}
