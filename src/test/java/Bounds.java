import java.util.ArrayList;
import java.util.Collections;
import java.util.LinkedHashMap;
import java.util.List;
import java.util.Map;

/**
 * Tests of boundary cases, each told under the promise and the words of the document that name the
 * case. Promise 0 stands for the terms, and for what is said ahead of them.
 */
abstract class Bounds {
    static final int TERMS = 0;

    /** Of each promise the words that have a test. */
    static final Map<Integer, List<String>> QUOTES = new LinkedHashMap<>();
    /** Tests in which an answer was not the one that is due. */
    static final List<String> BROKEN = new ArrayList<>();

    interface Maker {
        WallsOfBooks make();
    }

    interface Act {
        int on(WallsOfBooks x);
    }

    static void at(int promise, String words, Runnable test) {
        QUOTES.computeIfAbsent(promise, p -> new ArrayList<>()).add(words);
        String name = promise + ": " + words;
        int asked = Check.asked();
        int wrong = Check.wrong();
        Check.under("promise " + promise + " \"" + words + "\": ");
        try {
            test.run();
        } catch (RuntimeException e) {
            Check.due("threw " + e + ", which", 1, 0);
        }
        Check.due("something is asked", Check.asked() > asked, true);
        if (Check.wrong() > wrong) {
            BROKEN.add(name);
        }
        Check.under("");
    }

    static void due(String what, long got, long want) {
        Check.due(what, got, want);
    }

    static void due(String what, boolean got, boolean want) {
        Check.due(what, got, want);
    }

    static void row(String what, WallsOfBooks x, int... want) {
        Check.row(what, x, want);
    }

    static void noSuch(String what, Check.Call call) {
        Check.noSuch(what, call);
    }

    static WallsOfBooks city(String rule, String books, String wall, String readers) {
        return Check.city(rule, books, wall, readers);
    }

    /** As many lines of the same. */
    static String lines(int many, String line) {
        return String.join(";", Collections.nCopies(many, line));
    }

    /**
     * All that a refused call could spoil: books on the heap (g), in columns (c, e, d), lent (b, f)
     * and lost (a), two readers, a rule, six that can be undone, two that are kept, two columns
     * that were seen, a row, a text.
     */
    static WallsOfBooks rich() {
        WallsOfBooks x = city("t*5-k", "35;26;41;15;52;99;44", "ca/b/-", "2;3");
        x.keep(0);
        x.lend(1, 0, 5);
        x.lend(5, 1, 2);
        x.days(1);
        x.lay(3, 2);
        x.shot(0, 1);
        x.keep(1);
        x.lay(4, 1);
        x.seen(0, 4);
        x.seen(2, 0);
        x.low(9);
        Check.text(x, "w");
        return x;
    }

    /** The call answers so, and leaves the rich city with all that is in it and behind it. */
    static void refused(String what, Act call, int answer) {
        refusedIn(Bounds::rich, what, call, answer);
    }

    static void refusedIn(Maker maker, String what, Act call, int answer) {
        WallsOfBooks x = maker.make();
        due(what, call.on(x), answer);
        same(what, all(x), all(maker.make()));
    }

    /** The like, of a call that reads the text: that is empty then. */
    static void refusedText(String what, String text, Act call, int answer) {
        WallsOfBooks x = rich();
        Check.text(x, text);
        due(what + " [" + text + "]", call.on(x), answer);
        WallsOfBooks y = rich();
        y.end(0);
        same(what + " [" + text + "]", all(x), all(y));
    }

    /** A question leaves all but the row, and the text if it reads one. */
    static void question(String what, String text, Act call) {
        WallsOfBooks x = rich();
        if (text != null) {
            Check.text(x, text);
        }
        call.on(x);
        WallsOfBooks y = rich();
        if (text != null) {
            y.end(0);
        }
        x.low(0);
        y.low(0);
        same(what, all(x), all(y));
    }

    static void same(String what, String got, String want) {
        int at = 0;
        while (at < got.length() && at < want.length() && got.charAt(at) == want.charAt(at)) {
            at++;
        }
        boolean same = got.equals(want);
        int from = Math.max(0, at - 40);
        due(what + " leaves all as it was" + (same ? "" : ", not so: .." + got.substring(from, Math.min(got.length(), at + 20))
                + " for .." + want.substring(from, Math.min(want.length(), at + 20)) + ", which"), same, true);
    }

    /** What can be asked of a city without changing it. */
    static String look(WallsOfBooks x) {
        StringBuilder s = new StringBuilder("counts");
        for (int what = 0; what <= 12; what++) {
            s.append(' ').append(x.count(what));
        }
        s.append(" row");
        for (int i = 0; i < x.count(11); i++) {
            s.append(' ').append(x.row(i));
        }
        for (int b = 0; b < x.count(0); b++) {
            s.append(" book");
            for (int what = 0; what <= 6; what++) {
                s.append(' ').append(x.book(b, what));
            }
        }
        for (int c = 0; c < x.count(1); c++) {
            s.append(" column");
            for (int what = 0; what <= 4; what++) {
                s.append(' ').append(x.column(c, what));
            }
        }
        for (int r = 0; r < x.count(2); r++) {
            s.append(" reader");
            for (int what = 0; what <= 2; what++) {
                s.append(' ').append(x.reader(r, what));
            }
        }
        return s.append('\n').toString();
    }

    /** All of it, with what was seen, the text, what can be undone and what is kept; it is spoilt then. */
    static String all(WallsOfBooks x) {
        StringBuilder s = new StringBuilder(look(x));
        for (int c = 0; c < x.count(1); c++) {
            s.append("out ").append(x.out(c)).append(' ').append(look(x));
        }
        s.append("text ").append(x.law()).append(' ').append(look(x));
        for (int i = 0; i < 20; i++) {
            s.append("undo ").append(x.undo()).append(' ').append(look(x));
        }
        for (int i = 0; i < 2; i++) {
            s.append("again ").append(x.again(i)).append(' ').append(look(x));
        }
        return s.toString();
    }
}
