/** Boundary cases of promises 30 to 36, 39 and 40: laws, gaps, fines, drawn sieges, counts, the row. */
final class BoundsOfLaws extends Bounds {
    private static final int LEAST = Integer.MIN_VALUE;
    private static final int MOST = Integer.MAX_VALUE;
    private static final String FORTY = "t+t+t+t+t+t+t+t+t+t+t+t+t+t+t+t+t+t+t-10";

    static void run() {
        law();
        seen();
        forget();
        out();
        outFaults();
        look();
        rests();
        years();
        draws();
        count();
        row();
    }

    private static void law() {
        at(30, "THE TEXT is another RULE (an empty one: none): COLUMNS that HOLD by it (bits)", () -> {
            WallsOfBooks x = city("9", "15;16;11", "ca/b/-/-/-/-", "");
            due("empty: t*4, which is 4 below 5", Check.law(x, ""), 62);
            row("empty", x, 63, 3 * 4 - 3 * 9);
            due("5", Check.law(x, "5"), 63);
            due("empty again, not 5", Check.law(x, ""), 62);
            row("empty again, not 5", x, 63, 3 * 4 - 3 * 9);
            due("4", Check.law(x, "4"), 62);
            due("one sign", Check.law(x, "0"), 62);
            due("the rule stays", x.book(0, 6), 9);
            due("of a new one", new WallsOfBooks().law(), 1);
        });
        at(30, "the ROW: COLUMNS that HOLD by THE RULE, what all BOOKS in COLUMNS BEAR together by it less that by THE RULE.", () -> {
            WallsOfBooks x = city("9", "15;16;11;11", "ca/b/-", "");
            Check.rule(x, "0");
            due("the most", Check.law(x, "999+1"), 7);
            row("the most, each put to 999", x, 6, 3 * 999);
            Check.rule(x, "999");
            due("the least", Check.law(x, "0-1"), 6);
            row("the least, each put to 0", x, 7, -3 * 999);
            Check.wall(x, "-");
            due("none in columns", Check.law(x, "5"), 1);
            row("none in columns", x, 1, 0);
        });
        at(30, "-10000 - p: the sign at p can't stand there (as rule()).", () -> {
            String[] bad = {"x", "tx", "t+", "(t", "1000", "t<w<c", "(((((t", FORTY + "0", FORTY + "x", "-".repeat(40),
                "t+".repeat(40)};
            int[] p = {0, 1, 2, 2, 3, 3, 4, 40, 40, 40, 40};
            for (int i = 0; i < bad.length; i++) {
                refusedText("law", bad[i], x -> x.law(), -10000 - p[i]);
            }
            due("40 signs", Check.law(rich(), FORTY) >= 0, true);
        });
    }

    private static void seen() {
        at(31, "A COLUMN was seen with HEIGHT v (0 .. 99)", () -> {
            WallsOfBooks x = city("", "91;91;91;91", "abcd/-/-/-/-/-", "");
            due("0", x.seen(0, 0), 1);
            due("99, the last", x.seen(5, 99), 2);
            due("of none", x.seen(1, 0), 3);
            x.out(0);
            row("0: all are out", x, 15, 15);
            for (int v : new int[] {-1, 100, LEAST, MOST}) {
                refused("seen with " + v, y -> y.seen(1, v), -1);
                refused("seen again with " + v, y -> y.seen(0, v), -1);
            }
        });
        at(31, "how many COLUMNS were seen (one that was seen again: as it was last).", () -> {
            WallsOfBooks x = city("", "51;31", "ab/-", "");
            due("first", x.seen(0, 5), 1);
            due("again", x.seen(0, 3), 1);
            due("explained", x.out(0), 1);
            row("as it was last: a is out", x, 1, 1);
            due("again as at first", x.seen(0, 5), 1);
            x.out(0);
            row("b is out", x, 2, 2);
            due("another", x.seen(1, 0), 2);
        });
        at(31, "Refused: others.", () -> {
            for (int c : new int[] {-1, 3, 5, 6, LEAST, MOST}) {
                refused("column " + c, x -> x.seen(c, 1), -1);
            }
            due("of a new one", new WallsOfBooks().seen(1, 0), -1);
        });
    }

    private static void forget() {
        at(32, "They are forgotten: how many there were.", () -> {
            WallsOfBooks x = city("", "51", "a/-/-/-/-/-", "");
            due("none", x.forget(), 0);
            for (int c = 0; c < 6; c++) {
                x.seen(c, 0);
            }
            due("bits", x.count(9), 63);
            due("all", x.forget(), 6);
            due("bits none", x.count(9), 0);
            due("none again", x.forget(), 0);
            due("not seen", x.out(0), -2);
            due("seen anew", x.seen(3, 1), 1);
        });
    }

    private static void out() {
        at(33, "Sets of BOOKS of a COLUMN that explain what was seen of it (0: none out): how many", () -> {
            WallsOfBooks x = city("", "50;30;20;20", "dcba/-", "");
            int[] heights = {0, 1, 2, 3, 7, 12, 13, 99};
            int[] many = {1, 0, 2, 1, 3, 1, 0, 0};
            for (int i = 0; i < heights.length; i++) {
                x.seen(0, heights[i]);
                due("seen with " + heights[i], x.out(0), many[i]);
            }
            x.seen(1, 0);
            due("of none", x.out(1), 1);
            row("none out", x, 0, 0);
            x.seen(1, 1);
            due("of none, 1", x.out(1), 0);
        });
        at(33, "the ROW: the least (bits; NONE), BOOKS that are in all of them (0 without).", () -> {
            WallsOfBooks x = city("", "50;30;20;20", "dcba", "");
            x.seen(0, 12);
            x.out(0);
            row("none out", x, 0, 0);
            x.seen(0, 0);
            x.out(0);
            row("all out", x, 15, 15);
            x.seen(0, 10);
            due("without c, without d", x.out(0), 2);
            row("the least, none in both", x, 4, 0);
            x.seen(0, 2);
            due("c or d is left", x.out(0), 2);
            row("a, b in both", x, 1 + 2 + 4, 1 + 2);
            x.seen(0, 11);
            due("no set", x.out(0), 0);
            row("no set", x, -1, 0);
        });
    }

    private static void outFaults() {
        at(33, "-2: it was not seen", () -> {
            refused("not seen", x -> x.out(1), -2);
            refusedIn(WallsOfBooks::new, "of a new one", x -> x.out(0), -2);
            due("seen", rich().out(0), 1);
        });
        at(33, "NONE: none such.", () -> {
            for (int c : new int[] {-1, 3, 6, LEAST, MOST}) {
                refused("column " + c, x -> x.out(c), -1);
            }
        });
    }

    private static void look() {
        at(34, "of equal ones the first: it; the ROW: how many.", () -> {
            WallsOfBooks x = new WallsOfBooks();
            due("of none", x.look(), 0);
            row("of none: 0 alone", x, 1);
            WallsOfBooks y = city("", "80;40;20;10;10;10;90", "-/ef/g/abcd/-", "");
            due("four of which each sum is another", y.look(), 3);
            row("sixteen", y, 16);
            y.seen(3, 0);
            due("ef shows 0, 1, 2", y.look(), 1);
            row("ef", y, 3);
            y.seen(1, 0);
            due("g", y.look(), 2);
            row("g", y, 2);
            y.seen(2, 0);
            due("the first of the empty ones", y.look(), 0);
            row("the first of the empty ones", y, 1);
            y.seen(0, 0);
            due("the last", y.look(), 4);
        });
        at(34, "-2: all were seen.", () -> {
            Maker all = () -> {
                WallsOfBooks x = rich();
                x.seen(1, 3);
                return x;
            };
            refusedIn(all, "all", x -> x.look(), -2);
            WallsOfBooks x = all.make();
            x.forget();
            due("forgotten", x.look() >= 0, true);
        });
    }

    private static void rests(int v, int f, int many, int... least) {
        WallsOfBooks x = rich();
        due("rests " + v + " " + f, x.rests(v, f), many);
        row("rests " + v + " " + f, x, least);
    }

    private static void rests() {
        at(35, "Two readers keep a book x and y days too long (0 .. 9 each)", () -> {
            rests(0, 0, 100, 0, 0);
            rests(9, 0, 1, 9, 9);
            rests(0, 9, 1, 0, 0);
        });
        at(35, "who keeps it longer reads on and has v (0 .. 9) more, of like ones each half of v (cut)", () -> {
            // Half of 1 is 0: against one who keeps it 9 days each number is as good as 9.
            rests(1, 0, 19, 0, 9);
            rests(2, 0, 1, 9, 9);
            rests(3, 0, 1, 9, 9);
            rests(1, 1, 3, 0, 0);
        });
        at(35, "each pays f (0 .. 9) for each of his days", () -> {
            rests(9, 9, 1, 0, 0);
            rests(0, 1, 1, 0, 0);
        });
        at(35, "Pairs of days by which neither would have more by another number alone", () -> {
            // 0 0, 0 1, 1 0 and 1 1: another number would give as much, not more.
            rests(8, 4, 4, 0, 0);
            rests(8, 5, 1, 0, 0);
        });
        at(35, "the ROW: the least (nothing without).", () -> {
            rests(9, 1, 0);
            rests(9, 0, 1, 9, 9);
        });
        at(35, "NONE: others.", () -> {
            for (int n : new int[] {-1, 10, LEAST, MOST}) {
                refused("v " + n, x -> x.rests(n, 0), -1);
                refused("f " + n, x -> x.rests(0, n), -1);
                refused("both " + n, x -> x.rests(n, n), -1);
            }
        });
    }

    private static void years() {
        at(36, "n DAYS (1 .. 60) from now", () -> {
            // One column and one book: each draw is 0. It is laid ahead of day 1 and shot ahead of day 2.
            WallsOfBooks x = city("", "30", "-", "0");
            due("1", x.years(5, 1), 1);
            row("1", x, 0, 3);
            due("2", x.years(5, 2), 1);
            row("2", x, 1, 0);
            due("60", x.years(5, 60), 1);
            row("60", x, 1, 0);
            // Lent till tomorrow it is laid ahead of day 2, and shot ahead of day 3.
            x.lend(0, 0, 1);
            due("lent, 1", x.years(5, 1), 0);
            row("lent, 1", x, 0, 0);
            due("lent, 2", x.years(5, 2), 1);
            row("lent, 2", x, 0, 0);
            due("lent, 3", x.years(5, 3), 1);
            row("lent, 3", x, 1, 0);
            // Late by 9: it comes back with day 38 from now on, is laid ahead of day 39, shot ahead of day 40.
            WallsOfBooks y = city("", "30", "-", "9");
            y.days(7);
            y.lend(0, 0, 30);
            y.days(1);
            due("late, 38", y.years(5, 38), 0);
            due("late, 39", y.years(5, 39), 1);
            row("late, 39", y, 0, 0);
            due("late, 40", y.years(5, 40), 1);
            row("late, 40", y, 1, 0);
        });
        at(36, "ahead of each a DRAW of COLUMNS is shot once (its highest BOOK)", () -> {
            WallsOfBooks x = city("", "30;20", "ab", "");
            due("one of two is shot", x.years(5, 1), 0);
            row("one of two is shot", x, 1, 3);
            due("both", x.years(5, 2), 0);
            row("both", x, 2, 0);
            due("none is left", x.years(5, 3), 0);
            row("none is left", x, 2, 0);
        });
        at(36, "is laid on a DRAW of COLUMNS, if it can be (lay())", () -> {
            WallsOfBooks x = city("", "30", "a", "");
            due("lost", x.years(5, 60), 0);
            // Of four the highest is shot; by this seed e is drawn to be laid: 10 lie on a then.
            WallsOfBooks y = city("99", "11;12;13;14;15", "abcd", "");
            due("e is drawn", drawn(4, 5, 2), 4);
            Check.rule(y, "10");
            due("10 on what bears 10", y.years(4, 1), 1);
            row("10 on what bears 10", y, 1, 4);
            Check.rule(y, "9");
            due("10 on what bears 9", y.years(4, 1), 0);
            row("10 on what bears 9", y, 1, 3);
            // By another seed it is one that is in the column.
            due("a is drawn", drawn(5, 5, 2), 0);
            due("not on the heap", y.years(5, 1), 0);
        });
        at(36, "the least HEIGHT behind any DAY", () -> {
            WallsOfBooks x = city("", "30;90", "a", "");
            // Behind the shot and the laying, not between them: 9 on the first day if b is drawn.
            due("b is drawn", drawn(2, 2, 2), 1);
            due("b is laid", x.years(2, 1), 1);
            row("b is laid", x, 1, 9);
        });
        at(36, "-2: there are no BOOKS (asked first)", () -> {
            for (int n : new int[] {1, 60, 0, 61, -1, LEAST, MOST}) {
                refusedIn(WallsOfBooks::new, "years of " + n, x -> x.years(1, n), -2);
            }
            due("one book", city("", "11", "-", "").years(1, 1), 1);
        });
        at(36, "NONE: another n.", () -> {
            for (int n : new int[] {0, 61, -1, LEAST, MOST}) {
                refused("years of " + n, x -> x.years(1, n), -1);
            }
        });
    }

    /** Of the draw so many behind the seed, of n. */
    private static int drawn(int seed, int n, int draw) {
        long r = seed & 0xFFFFFFFFL;
        for (int i = 0; i < draw; i++) {
            r = (r * 1103515245L + 12345) % 4294967296L;
        }
        return (int) (r / 65536 % n);
    }

    private static void draws() {
        int[] seeds = {0, 1, 2, 3, 4, 5, 6, 7, -1, -2, 1000, 65535, 65536, MOST, LEAST, LEAST + 1};
        at(36, "R = R times 1103515245 + 12345 (as ints; R is seed at first)", () -> {
            // All on the heap: the second draw tells which one of them is laid.
            WallsOfBooks x = city("", "10;20;30;40;50;60;70", "-", "");
            for (int seed : seeds) {
                due("laid by " + seed, x.years(seed, 1), 1);
                row("laid by " + seed, x, 0, 1 + drawn(seed, 7, 2));
            }
        });
        at(36, "then a DRAW of BOOKS is laid on a DRAW of COLUMNS", () -> {
            // The first draw's column is 1 high then; it is 6 high if the third draw is the same.
            WallsOfBooks x = city("99", "10;90;10;90;10;90;50;50;50;50;50;50", "ab/cd/ef", "");
            int laid = 0;
            for (int seed = 0; seed < 60; seed++) {
                boolean onHeap = drawn(seed, 12, 2) >= 6;
                due("laid by " + seed, x.years(seed, 1), onHeap ? 1 : 0);
                row("laid by " + seed, x, 1, onHeap && drawn(seed, 3, 1) == drawn(seed, 3, 3) ? 6 : 1);
                laid += onHeap ? 1 : 0;
            }
            due("some are on the heap, some are not", laid > 10 && laid < 50, true);
        });
        at(36, "(R without sign, by 65536) % n", () -> {
            // All in columns: the first draw tells which column is shot.
            WallsOfBooks x = city("", "90;90;90;10;20;30", "da/eb/fc", "");
            int below = 0;
            for (int seed : seeds) {
                due("laid by " + seed, x.years(seed, 1), 0);
                row("shot by " + seed, x, 1, 1 + drawn(seed, 3, 1));
                below += seed * 1103515245 + 12345 < 0 ? 1 : 0;
            }
            due("some draws would be below 0 with a sign", below > 3, true);
            WallsOfBooks y = city("", "30", "-", "");
            due("of one it is always 0", y.years(2, 1), 1);
        });
    }

    private static void count() {
        at(39, "What 0: BOOKS, 1: COLUMNS, 2: READERS, 3: DAY, 4: on THE HEAP (bits), 5: in COLUMNS, 6: LENT, 7: LOST, "
                + "8: the least HEIGHT of all COLUMNS, 9: COLUMNS that were seen (bits), 10: what can be undone, "
                + "11: numbers of the ROW, 12: signs of THE TEXT.", () -> {
            int[] rich = {7, 3, 2, 1, 64, 4 + 8 + 16, 2 + 32, 1, 1, 5, 6, 2, 1};
            WallsOfBooks x = rich();
            WallsOfBooks y = new WallsOfBooks();
            for (int what = 0; what <= 12; what++) {
                due("count " + what, x.count(what), rich[what]);
                due("count " + what + " of a new one", y.count(what), what == 1 ? 1 : 0);
            }
            WallsOfBooks z = city("", "90;90;90;90;90;90;90;90;90;90;90;90", "abcd/efgh/ijkl", "1;1;1;1");
            due("the highest least", z.count(8), 36);
            Check.text(z, "1".repeat(80));
            due("the most signs", z.count(12), 80);
        });
        at(39, "NONE for another what.", () -> {
            for (int what : new int[] {-1, 13, 14, LEAST, MOST}) {
                refused("count " + what, x -> x.count(what), -1);
            }
        });
    }

    private static void row() {
        at(40, "Number i of the ROW.", () -> {
            WallsOfBooks x = city("99", "10;10;10;10;10;10", "-/-/-/-/-/-", "");
            due("all six", x.build(1), 6);
            row("twelve numbers", x, 0, 0, 1, 1, 2, 2, 3, 3, 4, 4, 5, 5);
            x.home();
            row("a shorter one", x, -1);
        });
        at(40, "NoSuchElementException: none such.", () -> {
            WallsOfBooks x = city("99", "10;10;10;10;10;10", "-/-/-/-/-/-", "");
            noSuch("no row yet", () -> x.row(0));
            x.build(1);
            for (int i : new int[] {-1, 12, 13, LEAST, MOST}) {
                noSuch("row " + i + " of twelve", () -> x.row(i));
            }
            x.low(5);
            noSuch("row 2 of two, behind a longer one", () -> x.row(2));
            x.home();
            noSuch("row 1 of one", () -> x.row(1));
            x.build(0);
            noSuch("row 0 of none", () -> x.row(0));
        });
    }
}
