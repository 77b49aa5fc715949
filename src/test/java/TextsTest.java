/** Promises 1 to 7 and 11: a new object, the text, books, the wall, readers, the rule, sheets. */
public final class TextsTest {
    public static void main(String[] args) {
        promise1();
        promise2();
        promise3();
        promise4();
        promise5();
        promise6();
        promise7Grammar();
        promise7Worth();
        promise11();
        Check.finish("TextsTest");
    }

    private static void promise1() {
        WallsOfBooks x = new WallsOfBooks();
        for (int what = 0; what <= 12; what++) {
            Check.due("new count " + what, x.count(what), what == 1 ? 1 : 0);
        }
        Check.due("new column has no books", x.column(0, 1), 0);
        Check.noSuch("new book 0", () -> x.book(0, 0));
        Check.noSuch("new column 1", () -> x.column(1, 0));
        Check.noSuch("new reader 0", () -> x.reader(0, 0));
        Check.noSuch("new row 0", () -> x.row(0));
        Check.due("new again 0", x.again(0), false);
        Check.due("new undo", x.undo(), -1);
        Check.due("NONE", WallsOfBooks.NONE, -1);
    }

    private static void promise2() {
        WallsOfBooks x = new WallsOfBooks();
        // The highest byte first: "12;3" and "4", of which 5 are two books.
        Check.due("sign 12;3", x.sign(0x31323B33), 4);
        Check.due("sign 4", x.sign(0x34FF00FF), 8);
        x.end(5);
        Check.due("books of signs", x.books(), 2);
        Check.due("thick 0", x.book(0, 0), 1);
        Check.due("weight 0", x.book(0, 1), 2);
        Check.due("weight 1", x.book(1, 1), 4);
        for (int i = 1; i <= 20; i++) {
            Check.due("sign " + i, x.sign(-1), 4 * i);
        }
        Check.due("sign beyond 80", x.sign(0), -1);
        Check.due("signs then", x.count(12), 80);
        x.end(77);
        Check.due("sign at 77", x.sign(0), -1);
        Check.due("signs at 77", x.count(12), 77);
        x.end(76);
        Check.due("sign at 76", x.sign(0), 80);
    }

    private static void promise3() {
        WallsOfBooks x = new WallsOfBooks();
        Check.due("end 0 of none", x.end(0), true);
        Check.due("end 1 of none", x.end(1), false);
        x.sign(0x31323334);
        Check.due("end 5 of 4", x.end(5), false);
        Check.due("end -1", x.end(-1), false);
        Check.due("end least", x.end(Integer.MIN_VALUE), false);
        Check.due("signs stay", x.count(12), 4);
        Check.due("end 4 of 4", x.end(4), true);
        Check.due("end 2", x.end(2), true);
        Check.due("signs 2", x.count(12), 2);
        Check.due("its first two", x.books(), 1);
        Check.due("thick", x.book(0, 0), 1);
        Check.due("weight", x.book(0, 1), 2);
    }

    private static void promise4() {
        WallsOfBooks x = new WallsOfBooks();
        Check.due("no books", Check.books(x, ""), 0);
        String[] bad = {"x", "0", "05", "5", "5x", "555", "55,", "55;", "55;0", "55;5", "55;55x", ";", "55;;"};
        int[] at = {0, 0, 0, 1, 1, 2, 2, 3, 3, 4, 5, 0, 3};
        for (int i = 0; i < bad.length; i++) {
            Check.due("books " + bad[i], Check.books(x, bad[i]), -1 - at[i]);
            Check.due("the text is read", x.count(12), 0);
            Check.due("nothing comes", x.count(0), 0);
        }
        String twelve = "55;55;55;55;55;55;55;55;55;55;55;55";
        Check.due("12 and ;", Check.books(x, twelve + ";"), -37);
        Check.due("13", Check.books(x, twelve + ";55"), -37);
        Check.due("37 signs, bad ahead", Check.books(x, "55x" + twelve), -3);
        Check.due("none came", x.count(0), 0);
        Check.due("two", Check.books(x, "90;19"), 2);
        Check.due("on the heap", x.count(4), 3);
        Check.due("thick 9", x.book(0, 0), 9);
        Check.due("weight 0", x.book(0, 1), 0);
        Check.due("no room for the 13th", Check.books(x, twelve), -1 - 30);
        Check.due("no room at its first sign, its end too", Check.books(x, twelve.substring(0, 30)), -1 - 30);
        Check.due("a sign that can't, ahead of that", Check.books(x, "5x" + twelve.substring(2)), -2);
        Check.due("ten more", Check.books(x, twelve.substring(0, 29)), 10);
        Check.due("twelve", x.count(0), 12);
        Check.due("no more", Check.books(x, "55"), -1);
        Check.due("empty yet", Check.books(x, ""), 0);
    }

    private static void promise5() {
        WallsOfBooks x = new WallsOfBooks();
        Check.due("six books", Check.books(x, "91;91;91;91;91;99"), 6);
        String[] bad = {"", "x", "A", "g", "/", "a/", "-/", "--", "-a", "a-", "aa", "ab/a", "abcde", "abcd/e/",
            "-/-/-/-/-/-/-", "-/-/-/-/-/-/", "a//b", "a;b"};
        int[] at = {0, 0, 0, 0, 0, 2, 2, 1, 1, 1, 1, 3, 4, 7, 11, 11, 2, 1};
        for (int i = 0; i < bad.length; i++) {
            Check.due("wall " + bad[i], Check.wall(x, bad[i]), -1 - at[i]);
            Check.due("the text is read", x.count(12), 0);
            Check.due("columns stay", x.count(1), 1);
        }
        Check.due("readers", Check.readers(x, "1"), 1);
        Check.due("wall", Check.wall(x, "abcd/-/fe"), 3);
        Check.due("from below", x.book(3, 4), 3);
        Check.due("column", x.book(5, 3), 2);
        Check.due("lowest", x.book(5, 4), 0);
        Check.due("in columns", x.count(5), 63);
        x.lend(0, 0, 5);
        x.shot(0, 1);
        x.days(3);
        x.seen(1, 3);
        x.keep(0);
        Check.due("a bad wall changes nothing", Check.wall(x, "ab/aa"), -4);
        Check.due("lent yet", x.count(6), 1);
        Check.due("undone yet", x.count(10), 3);
        Check.due("seen yet", x.count(9), 2);
        Check.due("wall anew", Check.wall(x, "b"), 1);
        Check.due("all others are on the heap", x.count(4), 63 - 2);
        Check.due("lent none", x.count(6), 0);
        Check.due("lost none", x.count(7), 0);
        Check.due("due no more", x.book(0, 5), -1);
        Check.due("nobody has it", x.book(0, 3), -1);
        Check.due("the day stays", x.count(3), 3);
        Check.due("seen is forgotten", x.count(9), 0);
        Check.due("undo is forgotten", x.undo(), -1);
        Check.due("kept is forgotten", x.again(0), false);
        Check.due("light rule", Check.rule(x, "8"), 0);
        Check.due("would not hold", Check.wall(x, "a/bf"), -200);
        Check.due("as it was", x.count(1), 1);
        Check.due("the text can't stand, first", Check.wall(x, "bf/"), -4);
        Check.due("six columns", Check.wall(x, "-/-/-/-/-/-"), 6);
        Check.due("all on the heap", x.count(4), 63);
    }

    private static void promise6() {
        WallsOfBooks x = new WallsOfBooks();
        Check.due("nobody", Check.readers(x, ""), 0);
        String[] bad = {"x", "1;", "11", "1;;", "1;2;3;4;", "1;2;3;4;5", "1;2;3;4x", "1;2;3x4x", ";"};
        int[] at = {0, 2, 1, 2, 7, 7, 7, 5, 0};
        for (int i = 0; i < bad.length; i++) {
            Check.due("readers " + bad[i], Check.readers(x, bad[i]), -1 - at[i]);
            Check.due("nobody comes", x.count(2), 0);
        }
        Check.due("two", Check.readers(x, "0;9"), 2);
        Check.due("late 0", x.reader(0, 0), 0);
        Check.due("late 9", x.reader(1, 0), 9);
        Check.due("fines", x.reader(1, 1), 0);
        Check.due("no room for a fifth", Check.readers(x, "1;2;3"), -5);
        Check.due("two yet", x.count(2), 2);
        Check.due("two more", Check.readers(x, "1;2"), 2);
        Check.due("no more", Check.readers(x, "1"), -1);
        Check.due("nothing yet", Check.readers(x, ""), 0);
        Check.due("four", x.count(2), 4);
    }

    private static void promise7Grammar() {
        WallsOfBooks x = Check.small();
        String[] bad = {"x", "t+", "t*", "-", "(", "()", "(t", "t)", "(t))", "tt", "2t", "t2", "1000", "t<w<c",
            "t=w>1", "(t<w<c)", "t<", "(((((t)))))", "((((t))))(", "+t", "*t", "t+*w", "t<=w", "t w", "t~w",
            "(t<w)<(c<k)<1", "d10", ""};
        int[] at = {0, 2, 2, 1, 1, 1, 2, 1, 3, 1, 1, 1, 3, 3, 3, 4, 2, 4, 9, 0, 0, 2, 2, 1, 1, 11, 1, -1};
        for (int i = 0; i < bad.length; i++) {
            Check.due("rule " + bad[i], Check.rule(x, bad[i]), -1 - at[i]);
            Check.due("the text is read", x.count(12), 0);
            Check.due("it bears as it did", x.book(0, 6), 12);
        }
        String forty = "t+t+t+t+t+t+t+t+t+t+t+t+t+t+t+t+t+t+t-10";
        Check.due("signs", forty.length(), 40);
        Check.due("40 signs", Check.rule(x, forty), 0);
        Check.due("of 40 signs", x.book(0, 6), 47);
        Check.due("41 that could stand", Check.rule(x, forty + "0"), -41);
        Check.due("41, a bad one behind", Check.rule(x, forty + "x"), -41);
        Check.due("40, its end too early", Check.rule(x, forty.substring(0, 39) + "+"), -41);
        Check.due("40 of signs ahead", Check.rule(x, "----------------------------------------"), -41);
        Check.due("39 ahead", Check.rule(x, "---------------------------------------t"), 0);
        Check.due("put to 0", x.book(0, 6), 0);
        Check.due("none", Check.rule(x, ""), 0);
        Check.due("t*4 again", x.book(0, 6), 12);
    }

    private static void promise7Worth() {
        WallsOfBooks x = Check.small();
        // Of a: thick 3, weight 5, column 0, place 1, of 2 books; of b: 2, 6, column 1, 0, of 1.
        Check.due("days", x.days(13), 13);
        String[] rules = {"t", "w", "c", "k", "n", "d", "7", "042", "999", "999+1", "1-2", "t-w+9", "9-t-w", "2+3*t",
            "(2+3)*t", "w/t", "-w/t+9", "w/0", "w/0+3", "9/t*2", "--t", "-t*-w", "2*-3+9", "t<w", "t>w", "t=3",
            "(t=3)+1", "t+2=w", "1+(t<w)*8", "w-(t-(k-(c-(n))))", "999*999*999*999", "t--k", "5-(1<2)-1"};
        int[] ofA = {3, 5, 0, 1, 2, 3, 7, 42, 999, 999, 0, 7, 1, 11, 15, 1, 8, 0, 3, 6, 3, 15, 3, 1, 0, 1, 2, 1, 9,
            5 - (3 - (1 - (0 - 2))), 0, 4, 3};
        int[] ofB = {2, 6, 1, 0, 1, 3, 7, 42, 999, 999, 0, 5, 1, 8, 10, 3, 6, 0, 3, 8, 2, 12, 3, 1, 0, 0, 1, 0, 9,
            6 - (2 - (0 - (1 - 1))), 0, 2, 3};
        int big = 999 * 999 * 999 * 999;
        for (int i = 0; i < rules.length; i++) {
            int worth = i == 30 ? Math.max(0, Math.min(999, big)) : ofA[i];
            Check.due("rule " + rules[i], Check.rule(x, rules[i]), 0);
            Check.due(rules[i] + " of a", x.book(0, 6), worth);
            Check.due(rules[i] + " of b", x.book(1, 6), i == 30 ? worth : ofB[i]);
        }
        Check.due("it need not hold", Check.rule(x, "0"), 0);
        Check.due("stands all the same", x.column(0, 1), 2);
        Check.due("holds not", x.column(0, 3), 0);
        Check.due("undone yet", x.count(10), 1);
    }

    private static void promise11() {
        WallsOfBooks x = Check.small();
        Check.due("another kind", x.sheet(4, -1, 1, 1), -1);
        Check.due("kind -1", x.sheet(-1, 1, 1, 1), -1);
        Check.due("13", x.sheet(0, 13, 1, 1), -1);
        Check.due("missing, 13", x.sheet(3, 13, 1, 1), -1);
        Check.due("below 0", x.sheet(2, -1, 1, 1), -2);
        Check.due("nothing changed", x.book(0, 0), 3);
        Check.due("1 .. 5", x.sheet(2, 5, 1, 1), 15);
        Check.due("thick 4", x.book(4, 0), 5);
        Check.due("weight stays", x.book(4, 1), 2);
        Check.due("3 of 5", x.sheet(2, 3, 7, 2), 7 + 9 + 9 + 1 + 1);
        Check.due("put to 1", x.sheet(2, 5, -5, 3), 1 + 1 + 1 + 4 + 7);
        Check.due("more than there are", x.sheet(2, 12, 2, 0), 10);
        Check.due("none told", x.sheet(2, 0, 5, 5), 5);
        Check.due("bytes", x.sheet(0, 5, 254, 3), 1 + 1 + 4 + 7 + 9);
        Check.due("byte 257", x.sheet(0, 1, 0x7F05, 0), 5 + 4);
        Check.due("byte 128 is below 0", x.sheet(0, 1, 128, 0), 5);
        Check.due("shorts", x.sheet(1, 2, 0x12340006, 0x10000), 6 + 6 + 3);
        Check.due("short below 0", x.sheet(1, 1, 0x8000, 0), 5);
        Check.due("ints wrap", x.sheet(2, 2, Integer.MAX_VALUE, 1), 9 + 1 + 3);
        Check.due("missing", x.sheet(3, 4, 9, 0), -3);
        Check.due("all 1", x.column(0, 0), 2);
        Check.due("missing, below 0", x.sheet(3, -7, 9, 0), -3);
        Check.due("of no books", new WallsOfBooks().sheet(2, 3, 5, 0), 0);
    }
}
