import java.util.NoSuchElementException;

/** What the tests by promises share: texts, due answers, rows and throws. */
final class Check {
    private static int wrong;
    private static int asked;
    private static String under = "";

    private Check() {
    }

    interface Call {
        int ask();
    }

    /** What is told ahead of each wrong answer from now on. */
    static void under(String words) {
        under = words;
    }

    static int asked() {
        return asked;
    }

    static int wrong() {
        return wrong;
    }

    static void text(WallsOfBooks x, String t) {
        x.end(0);
        for (int i = 0; i < t.length(); i += 4) {
            int v = 0;
            for (int k = i; k < i + 4; k++) {
                v = v << 8 | (k < t.length() ? t.charAt(k) : 0);
            }
            x.sign(v);
        }
        x.end(t.length());
    }

    static int books(WallsOfBooks x, String t) {
        text(x, t);
        return x.books();
    }

    static int wall(WallsOfBooks x, String t) {
        text(x, t);
        return x.wall();
    }

    static int readers(WallsOfBooks x, String t) {
        text(x, t);
        return x.readers();
    }

    static int rule(WallsOfBooks x, String t) {
        text(x, t);
        return x.rule();
    }

    static int law(WallsOfBooks x, String t) {
        text(x, t);
        return x.law();
    }

    static int siege(WallsOfBooks x, String t) {
        text(x, t);
        return x.siege();
    }

    static WallsOfBooks city(String rule, String books, String wall, String readers) {
        WallsOfBooks x = new WallsOfBooks();
        due("rule " + rule, rule(x, rule), 0);
        due("books " + books, books(x, books), (books.length() + 1) / 3);
        due("wall " + wall, wall(x, wall), wall.split("/").length);
        due("readers " + readers, readers(x, readers), (readers.length() + 1) / 2);
        return x;
    }

    /** a 3/5, b 2/6, c 4/1, d 1/5, e 5/2 (thick/weight); c below a, b alone, none; late 2 and 3. */
    static WallsOfBooks small() {
        return city("", "35;26;41;15;52", "ca/b/-", "2;3");
    }

    static void due(String what, long got, long want) {
        asked++;
        if (got != want) {
            wrong++;
            System.out.println(under + what + " answered " + got + ", due is " + want);
        }
    }

    static void due(String what, boolean got, boolean want) {
        due(what, got ? 1 : 0, want ? 1 : 0);
    }

    static void row(String what, WallsOfBooks x, int... want) {
        due(what + ": numbers of the row", x.count(11), want.length);
        for (int i = 0; i < want.length && i < x.count(11); i++) {
            due(what + ": row " + i, x.row(i), want[i]);
        }
    }

    static void noSuch(String what, Call call) {
        int thrown = 0;
        try {
            call.ask();
        } catch (NoSuchElementException e) {
            thrown = 1;
        }
        due(what + " throws", thrown, 1);
    }

    static void finish(String name) {
        System.out.println(name + ": " + asked + " answers, " + wrong + " not as due");
        if (wrong != 0) {
            System.exit(1);
        }
    }
}
