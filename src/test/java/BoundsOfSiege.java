/** Boundary cases of promises 12 to 18, 37 and 38: what is done in a siege, undone, kept. */
final class BoundsOfSiege extends Bounds {
    private static final int LEAST = Integer.MIN_VALUE;
    private static final int MOST = Integer.MAX_VALUE;

    static void run() {
        lay();
        lend();
        lendFaults();
        recall();
        shot();
        days();
        siegeActs();
        siegeDone();
        siegeFaults();
        undo();
        undoForgotten();
        keep();
        again();
    }

    private static void lay() {
        at(12, "A BOOK on THE HEAP is laid on top of a COLUMN: HEIGHT then.", () -> {
            WallsOfBooks x = city("99", "91;91;91;91;10", "-/-/-/-/-/-", "");
            due("the last on an empty one, the last", x.lay(4, 5), 1);
            due("the first on the first", x.lay(0, 0), 9);
            due("a second", x.lay(1, 0), 18);
            due("a third", x.lay(2, 0), 27);
            due("a fourth", x.lay(3, 0), 36);
            due("on top", x.book(3, 4), 3);
            due("the heap", x.count(4), 0);
        });
        at(12, "-2: it is not on THE HEAP", () -> {
            refused("lost", x -> x.lay(0, 0), -2);
            refused("lent", x -> x.lay(1, 0), -2);
            refused("in this column", x -> x.lay(2, 0), -2);
            refused("in another column", x -> x.lay(3, 0), -2);
            due("on the heap", rich().lay(6, 0), 8);
        });
        at(12, "-3: there are 4 already", () -> {
            Maker full = () -> city("99", "11;11;11;11;11;11", "abc/-", "");
            due("a fourth", full.make().lay(3, 0), 4);
            refusedIn(() -> {
                WallsOfBooks x = full.make();
                x.lay(3, 0);
                return x;
            }, "a fifth", x -> x.lay(4, 0), -3);
        });
        at(12, "-4: the COLUMN would not HOLD", () -> {
            // Each bears 9, but of four each bears 0.
            Maker made = () -> city("9-(n=4)*9", "19;15;14;11;10;10", "e/-", "");
            due("9 on what bears 9", laid(made).lay(0, 0), 2);
            due("5 and 4 on what bears 9", laid(made, 1).lay(2, 0), 3);
            refusedIn(() -> laid(made, 0), "9 and 1 on what bears 9", x -> x.lay(3, 0), -4);
            refusedIn(() -> laid(made, 1, 2), "nothing more, but one more by which all bear 0", x -> x.lay(5, 0), -4);
        });
        at(12, "NONE: none such.", () -> {
            for (int b : new int[] {-1, 7, 12, 32, LEAST, MOST}) {
                refused("book " + b, x -> x.lay(b, 0), -1);
            }
            for (int c : new int[] {-1, 3, 5, 6, LEAST, MOST}) {
                refused("column " + c, x -> x.lay(6, c), -1);
                refused("column " + c + ", not on the heap", x -> x.lay(0, c), -1);
            }
        });
    }

    private static WallsOfBooks laid(Maker made, int... books) {
        WallsOfBooks x = made.make();
        for (int b : books) {
            due("laid " + b, x.lay(b, 0) > 0, true);
        }
        return x;
    }

    private static void lend() {
        at(13, "A BOOK that is on THE HEAP or in a COLUMN (also from under others, which sink)", () -> {
            WallsOfBooks x = city("99", "91;81;71;61;51", "abcd", "0;0");
            due("from the heap", x.lend(4, 0, 1), 1);
            due("the lowest of four", x.lend(0, 0, 1), 1);
            due("three are left", x.column(0, 1), 3);
            due("the second sank", x.book(1, 4), 0);
            due("the highest sank", x.book(3, 4), 2);
            due("height", x.column(0, 0), 21);
            due("the highest", x.lend(3, 1, 1), 1);
            due("none sank", x.book(2, 4), 1);
            due("the lower of two", x.lend(1, 1, 1), 1);
            due("the only one", x.lend(2, 1, 1), 1);
            due("none are left", x.column(0, 1), 0);
        });
        at(13, "is LENT to a READER for n days (1 .. 30): the day on which it is due.", () -> {
            WallsOfBooks x = city("", "11;11;11", "-", "0;0;0;9");
            due("1", x.lend(0, 0, 1), 1);
            due("30, to the fourth", x.lend(1, 3, 30), 30);
            x.days(29);
            due("30 from day 29", x.lend(2, 1, 30), 59);
            refused("0", y -> y.lend(6, 0, 0), -1);
            refused("31", y -> y.lend(6, 0, 31), -1);
            refused("-1", y -> y.lend(6, 0, -1), -1);
            refused("the least", y -> y.lend(6, 0, LEAST), -1);
            refused("the greatest", y -> y.lend(6, 0, MOST), -1);
        });
    }

    private static void lendFaults() {
        at(13, "-2: it is LENT, LOST", () -> {
            refused("lent to him", x -> x.lend(1, 0, 1), -2);
            refused("lent to another", x -> x.lend(1, 1, 1), -2);
            refused("lost", x -> x.lend(0, 0, 1), -2);
            due("in a column", rich().lend(2, 0, 1), 2);
            due("on the heap", rich().lend(6, 0, 1), 2);
        });
        at(13, "-3: he has 3", () -> {
            Maker three = () -> {
                WallsOfBooks x = rich();
                x.lend(6, 0, 1);
                x.lend(2, 0, 1);
                x.low(9);
                return x;
            };
            due("he has three", Integer.bitCount(three.make().reader(0, 2)), 3);
            refusedIn(three, "a fourth", x -> x.lend(3, 0, 1), -3);
            due("a second to another", three.make().lend(3, 1, 1), 2);
            due("a third", rich().lend(6, 0, 1), 2);
        });
        at(13, "NONE: others.", () -> {
            for (int b : new int[] {-1, 7, 12, LEAST, MOST}) {
                refused("book " + b, x -> x.lend(b, 0, 1), -1);
            }
            for (int r : new int[] {-1, 2, 4, LEAST, MOST}) {
                refused("reader " + r, x -> x.lend(6, r, 1), -1);
                refused("reader " + r + " and a lent book", x -> x.lend(1, r, 1), -1);
            }
            refused("a lent book for 0 days", x -> x.lend(1, 0, 0), -1);
            refused("a lost book for 31 days", x -> x.lend(0, 0, 31), -1);
        });
    }

    private static void recall() {
        at(14, "-2: it is not LENT", () -> {
            refused("lost", x -> x.recall(0), -2);
            refused("in a column", x -> x.recall(2), -2);
            refused("on the heap", x -> x.recall(6), -2);
            due("lent to the first", rich().recall(1), 0);
            due("lent to the last", rich().recall(5), 1);
        });
        at(14, "NONE: none such.", () -> {
            for (int b : new int[] {-1, 7, 12, LEAST, MOST}) {
                refused("book " + b, x -> x.recall(b), -1);
            }
            due("of none", new WallsOfBooks().recall(0), -1);
        });
        at(14, "it comes to THE HEAP now: who had it", () -> {
            WallsOfBooks x = city("", "11", "-", "9");
            x.lend(0, 0, 1);
            due("recall", x.recall(0), 0);
            due("the heap", x.count(4), 1);
            x.days(10);
            row("it does not come once more", x, 0, 0);
            due("no fines", x.reader(0, 1), 0);
        });
    }

    private static void shot() {
        Maker made = () -> city("99", "91;81;71;61;51", "abcd/e/-", "");
        at(15, "its highest n BOOKS (1 .. 4; all, if there are fewer) are LOST: HEIGHT then", () -> {
            int[] heights = {24, 17, 9, 0};
            int[] broken = {8, 12, 14, 15};
            for (int n = 1; n <= 4; n++) {
                WallsOfBooks x = made.make();
                due("shot of " + n, x.shot(0, n), heights[n - 1]);
                row("shot of " + n, x, broken[n - 1]);
                due("lost by " + n, x.count(7), broken[n - 1]);
            }
            WallsOfBooks y = made.make();
            due("a first", y.shot(0, 1), 24);
            due("a second", y.shot(0, 2), 9);
            row("what the second broke", y, 6);
            due("a third", y.shot(0, 2), 0);
            row("what the third broke", y, 1);
            for (int n = 1; n <= 4; n++) {
                WallsOfBooks x = made.make();
                due("shot of " + n + " on one", x.shot(1, n), 0);
                row("shot of " + n + " on one", x, 16);
            }
        });
        at(15, "-2: there are none", () -> {
            refusedIn(made, "none", x -> x.shot(2, 1), -2);
            refusedIn(made, "none, 4", x -> x.shot(2, 4), -2);
            WallsOfBooks x = made.make();
            x.shot(1, 1);
            due("none any more", x.shot(1, 1), -2);
            row("the row of the shot before", x, 16);
        });
        at(15, "NONE: others.", () -> {
            for (int n : new int[] {0, 5, -1, LEAST, MOST}) {
                refusedIn(made, "shot of " + n, x -> x.shot(0, n), -1);
                refusedIn(made, "shot of " + n + " on none", x -> x.shot(2, n), -1);
            }
            for (int c : new int[] {-1, 3, 6, LEAST, MOST}) {
                refusedIn(made, "column " + c, x -> x.shot(c, 1), -1);
            }
        });
    }

    private static void days() {
        at(16, "n DAYS (0 .. 99) go by: DAY", () -> {
            WallsOfBooks x = new WallsOfBooks();
            due("0", x.days(0), 0);
            due("1", x.days(1), 1);
            due("99", x.days(99), 100);
            due("0 again", x.days(0), 100);
            due("day", x.count(3), 100);
        });
        at(16, "the ROW: BOOKS that came back (bits), FINES for them.", () -> {
            WallsOfBooks x = city("", lines(12, "11"), "-", "9;0");
            x.days(0);
            row("none in no days", x, 0, 0);
            x.lend(0, 0, 30);
            x.lend(11, 0, 29);
            x.lend(5, 1, 1);
            x.days(0);
            row("none in no days yet", x, 0, 0);
            x.days(1);
            row("never late", x, 32, 0);
            x.days(36);
            row("none on day 37", x, 0, 0);
            x.days(99);
            row("on day 38 and day 39", x, 2049, 18);
            x.days(99);
            row("none any more", x, 0, 0);
        });
        at(16, "NONE: another n.", () -> {
            for (int n : new int[] {-1, 100, LEAST, MOST}) {
                refused("days " + n, x -> x.days(n), -1);
            }
        });
    }

    private static int siege(String text) {
        return Check.siege(city("99", "35;26;41;15;52", "ca/b/-", "2;3"), text);
    }

    private static void siegeActs() {
        at(17, "THE TEXT tells A SIEGE (an empty one: nothing)", () -> {
            WallsOfBooks x = rich();
            due("empty", Check.siege(x, ""), 0);
            row("empty", x, 0, 3);
            due("not to be undone", x.count(10), 6);
            WallsOfBooks y = new WallsOfBooks();
            due("of a new one", Check.siege(y, ""), 0);
            row("of a new one", y, 0, 0);
        });
        at(17, "l, a letter a .. l, a digit (COLUMN): lay()", () -> {
            due("ld0", siege("ld0"), 1);
            due("no book l", siege("ll0"), 0);
            due("no column 9", siege("ld9"), 0);
            due("m", siege("lm0"), -2);
            due("the sign ahead of a", siege("l`0"), -2);
            due("no letter", siege("l00"), -2);
            due("no digit", siege("lda"), -3);
            due("two digits", siege("ld00"), -4);
            due("its end, l", siege("l"), -2);
            due("its end, ld", siege("ld"), -3);
        });
        at(17, "o, a letter, a digit (READER), a number (1 or 2 digits): lend()", () -> {
            due("1", siege("oa01"), 1);
            due("01", siege("oa001"), 1);
            due("30", siege("oa130"), 1);
            due("31", siege("oa131"), 0);
            due("0", siege("oa00"), 0);
            due("00", siege("oa000"), 0);
            due("no reader 9", siege("oa91"), 0);
            due("no book l", siege("ol01"), 0);
            due("m", siege("om01"), -2);
            due("no digit", siege("oaa"), -3);
            due("no number", siege("oa0"), -4);
            due("no number, an act behind", siege("oa0;d1"), -4);
            due("three digits", siege("oa0123"), -6);
            due("its end, o", siege("o"), -2);
            due("its end, oa", siege("oa"), -3);
        });
        at(17, "r and a letter: recall()", () -> {
            due("not lent", siege("ra"), 0);
            due("lent", siege("oa01;ra"), 2);
            due("no book l", siege("rl"), 0);
            due("m", siege("rm"), -2);
            due("a digit behind", siege("ra0"), -3);
            due("its end", siege("r"), -2);
        });
        at(17, "s, a digit (COLUMN), a digit: shot()", () -> {
            due("of 1", siege("s01"), 1);
            due("of 4", siege("s04"), 1);
            due("of 0", siege("s00"), 0);
            due("of 5", siege("s05"), 0);
            due("of 9", siege("s09"), 0);
            due("no column 3", siege("s31"), 0);
            due("none there", siege("s21"), 0);
            due("a letter", siege("sa1"), -2);
            due("three digits", siege("s011"), -4);
            due("its end, s", siege("s"), -2);
            due("its end, s0", siege("s0"), -3);
        });
        at(17, "d and a number (1 or 2 digits): days()", () -> {
            WallsOfBooks x = rich();
            due("0", Check.siege(x, "d0"), 1);
            due("day 1 yet", x.count(3), 1);
            due("00", Check.siege(x, "d00"), 1);
            due("9", Check.siege(x, "d9"), 1);
            due("day 10", x.count(3), 10);
            due("99", Check.siege(x, "d99"), 1);
            due("day 109", x.count(3), 109);
            due("01", Check.siege(x, "d01"), 1);
            due("day 110", x.count(3), 110);
            due("three digits", Check.siege(x, "d100"), -4);
            due("its end", Check.siege(x, "d"), -2);
            due("no digit", Check.siege(x, "dx"), -2);
            due("below 0", Check.siege(x, "d-1"), -2);
        });
    }

    private static void siegeDone() {
        at(17, "they are done one by one, till one can't be (it answers below 0): how many were done", () -> {
            WallsOfBooks x = city("", "35;26;41;15;52", "ca/b/-", "2;3");
            due("the first can't be", Check.siege(x, "la0;d5;d5"), 0);
            due("none behind it was done", x.count(3), 0);
            due("the third can't be", Check.siege(x, "d5;ld2;ld2;d5"), 2);
            due("what is ahead was done", x.count(3), 5);
            due("and laid", x.column(2, 0), 1);
            due("the last can't be", Check.siege(x, "d1;d1;s29"), 2);
            due("all", Check.siege(x, "d0;d0;d0"), 3);
            due("an answer of 0 is not below 0", Check.siege(x, "s24;oe01;re"), 3);
        });
        at(17, "the ROW: 1 if one could not be, else 0; how many BOOKS are in COLUMNS then.", () -> {
            WallsOfBooks x = city("", "35;26;41;15;52", "ca/b/-", "2;3");
            Check.siege(x, "ld2;le1");
            row("all", x, 0, 5);
            Check.siege(x, "la0");
            row("none", x, 1, 5);
            Check.siege(x, "s04;s14;s24;s01;d1");
            row("the fourth could not be", x, 1, 0);
            Check.siege(x, "d1");
            row("all, and no books are in columns", x, 0, 0);
        });
    }

    private static void siegeFaults() {
        String sixty = "d1;".repeat(19) + "d01";
        at(17, "-1 - p: the sign at p can't stand there (as books(); 60 signs)", () -> {
            String[] bad = {"x", ";", "L", "d1;", "d1;;d1", "d1,d1", "d1;x", "d1d1", " d1", "ra;rm"};
            int[] p = {0, 0, 0, 3, 3, 2, 3, 2, 0, 4};
            for (int i = 0; i < bad.length; i++) {
                due("siege " + bad[i], siege(bad[i]), -1 - p[i]);
            }
            due("60", sixty.length(), 60);
            due("60 signs", siege(sixty), 20);
            due("61, one that could stand", siege(sixty + ";"), -61);
            due("61, one that can't", siege(sixty + "x"), -61);
            due("80", siege(sixty + ";d1".repeat(6) + ";d"), -61);
            due("60, its end too early", siege("d1;".repeat(20)), -61);
            due("60, its end too early in an act", siege("d1;".repeat(18) + "s01;la"), -61);
            due("the 60th can't", siege("d1;".repeat(19) + "d1x;"), -60);
            due("an earlier one can't", siege("d1x" + sixty), -3);
            due("acts of which there is no such book, column, reader can stand", siege("ll9;ol99;s99"), 0);
        });
        at(17, "nothing is done then", () -> {
            refusedText("siege", "d5;lg0;x", x -> x.siege(), -8);
            refusedText("siege", "lg0;", x -> x.siege(), -5);
            refusedText("siege", sixty + ";", x -> x.siege(), -61);
        });
    }

    private static void undo() {
        at(18, "(of 12 that are kept, the latest ones", () -> {
            WallsOfBooks x = new WallsOfBooks();
            for (int i = 1; i <= 15; i++) {
                x.days(i);
                due("kept", x.count(10), Math.min(i, 12));
            }
            int day = 120;
            for (int i = 15; i > 3; i--) {
                day -= i;
                due("undo", x.undo(), i - 4);
                due("day", x.count(3), day);
            }
            due("the thirteenth", x.undo(), -1);
            due("the first three stay", x.count(3), 6);
            due("again one", x.days(1), 7);
            due("it can be undone", x.undo(), 0);
            due("day", x.count(3), 6);
        });
        at(18, "such as were done", () -> {
            Maker twelve = () -> {
                WallsOfBooks x = rich();
                for (int i = 0; i < 6; i++) {
                    x.days(1);
                }
                return x;
            };
            due("twelve", twelve.make().count(10), 12);
            refusedIn(twelve, "lay", x -> x.lay(2, 0), -2);
            refusedIn(twelve, "lay", x -> x.lay(7, 0), -1);
            refusedIn(twelve, "lend", x -> x.lend(0, 0, 1), -2);
            refusedIn(twelve, "recall", x -> x.recall(0), -2);
            refusedIn(twelve, "shot", x -> x.shot(0, 0), -1);
            refusedIn(twelve, "days", x -> x.days(-1), -1);
            WallsOfBooks y = rich();
            y.recall(0);
            y.shot(3, 1);
            due("six yet", y.count(10), 6);
            due("recall", y.recall(1), 0);
            due("seven", y.count(10), 7);
            due("undone", y.undo(), 6);
            due("lent again", y.book(1, 3), 0);
        });
        at(18, "days() of 1 and more", () -> {
            WallsOfBooks x = rich();
            x.days(0);
            due("0", x.count(10), 6);
            x.days(1);
            due("1", x.count(10), 7);
            x.days(0);
            due("undone is the one of 1", x.undo(), 6);
            due("day", x.count(3), 1);
        });
        at(18, "siege() of which one ACT was done, as one)", () -> {
            WallsOfBooks x = rich();
            String ahead = look(x);
            Check.siege(x, "la0;d1");
            due("none done", x.count(10), 6);
            Check.siege(x, "");
            due("empty", x.count(10), 6);
            Check.siege(x, "d1;la0");
            due("one done", x.count(10), 7);
            Check.siege(x, "d1;lg0;s01;d9");
            due("four done", x.count(10), 8);
            due("undone as one", x.undo(), 7);
            due("day", x.count(3), 2);
            due("on the heap", x.book(6, 2), 0);
            due("the one of one", x.undo(), 6);
            x.low(9);
            Check.text(x, "w");
            same("both undone", look(x), ahead);
        });
        at(18, "(DAY, where BOOKS are, when they are due, FINES are as ahead of it)", () -> {
            WallsOfBooks x = city("99", lines(12, "11"), "abcd/-/-/-/e/fgh", "1;9");
            x.lend(8, 0, 1);
            x.lend(9, 1, 1);
            x.days(5);
            Act[] acts = {y -> y.lay(8, 5), y -> y.lend(0, 0, 30), y -> y.days(9), y -> y.shot(5, 2), y -> y.lend(11, 1, 2),
                y -> y.recall(11), y -> Check.siege(y, "lj3;s41;d40;oa11"), y -> y.lend(9, 0, 1)};
            String[] ahead = new String[acts.length];
            for (int i = 0; i < acts.length; i++) {
                x.low(9);
                ahead[i] = look(x);
                due("act " + i + " is done", acts[i].on(x) >= 0, true);
            }
            due("fines", x.reader(0, 1) + x.reader(1, 1), 1 + 9 + 1);
            for (int i = acts.length - 1; i >= 0; i--) {
                due("undo " + i, x.undo(), 3 + i);
                x.low(9);
                same("undo " + i, look(x), ahead[i]);
            }
            due("fines as ahead", x.reader(0, 1), 1);
        });
        at(18, "how many are left that can be. Refused: none.", () -> {
            WallsOfBooks x = rich();
            for (int left = 5; left >= 0; left--) {
                due("left", x.undo(), left);
                due("count", x.count(10), left);
            }
            due("none", x.undo(), -1);
            due("none yet", x.count(10), 0);
            refusedIn(WallsOfBooks::new, "of a new one", y -> y.undo(), -1);
        });
    }

    private static void undoForgotten() {
        at(18, "(books(), wall(), readers(), again() forget them, if they are not refused", () -> {
            due("books", undoneBehind("11", x -> x.books(), 1), 0);
            due("books refused", undoneBehind("1", x -> x.books(), -2), 6);
            due("wall", undoneBehind("-", x -> x.wall(), 1), 0);
            due("wall refused", undoneBehind("", x -> x.wall(), -1), 6);
            due("wall that would not hold", undoneBehind("df", x -> x.wall(), -200), 6);
            due("readers", undoneBehind("1", x -> x.readers(), 1), 0);
            due("readers refused", undoneBehind("x", x -> x.readers(), -1), 6);
            due("again", undoneBehind("", x -> x.again(0) ? 1 : 0, 1), 0);
            due("again refused", undoneBehind("", x -> x.again(2) ? 1 : 0, 0), 6);
            due("keep", undoneBehind("", x -> x.keep(0) ? 1 : 0, 1), 6);
            due("rule", undoneBehind("t", x -> x.rule(), 0), 6);
        });
        at(18, "books(), readers() of an empty text do not.)", () -> {
            due("books", undoneBehind("", x -> x.books(), 0), 6);
            due("readers", undoneBehind("", x -> x.readers(), 0), 6);
        });
    }

    private static int undoneBehind(String text, Act call, int answer) {
        WallsOfBooks x = rich();
        Check.text(x, text);
        due("the call on " + text, call.on(x), answer);
        return x.count(10);
    }

    private static void keep() {
        at(37, "are kept under a number 0 .. 1: true", () -> {
            WallsOfBooks x = city("", "31", "-", "");
            due("0", x.keep(0), true);
            x.days(1);
            due("1", x.keep(1), true);
            x.days(1);
            due("back to 0", x.again(0), true);
            due("day 0", x.count(3), 0);
            due("on to 1", x.again(1), true);
            due("day 1", x.count(3), 1);
            x.days(4);
            due("0 anew", x.keep(0), true);
            due("1 again", x.again(1), true);
            due("day 1 again", x.count(3), 1);
            due("0 again", x.again(0), true);
            due("day 5", x.count(3), 5);
        });
        at(37, "Refused: others.", () -> {
            for (int i : new int[] {-1, 2, LEAST, MOST}) {
                refused("keep " + i, x -> x.keep(i) ? 1 : 0, 0);
            }
        });
    }

    private static void again() {
        at(38, "They are as they were kept under a number.", () -> {
            WallsOfBooks z = city("99", lines(12, "11"), "abcd/-/-/-/e/fgh", "1;9");
            z.lend(8, 0, 1);
            z.days(5);
            z.lend(9, 1, 30);
            z.keep(0);
            z.low(9);
            String ahead = look(z);
            due("a siege", Check.siege(z, "s54;s44;d50;oj01;d9;li5;lj3"), 7);
            due("kept", z.keep(1), true);
            due("again 0", z.again(0), true);
            z.low(9);
            due("nothing to undo", z.count(10), 0);
            same("again 0, but for what can be undone", afterCounts(look(z)), afterCounts(ahead));
            due("again 1", z.again(1), true);
            due("fines by then", z.reader(0, 1) + z.reader(1, 1), 1 + 9 + 1);
            WallsOfBooks x = city("", "35;26;41;15", "ca/b/-", "2;3");
            x.keep(0);
            String first = look(x);
            x.lend(2, 0, 1);
            x.shot(1, 1);
            x.days(2);
            x.lend(3, 1, 30);
            x.lay(0, 2);
            due("again", x.again(0), true);
            due("the row is no part of it", x.count(11), 2);
            due("day", x.count(3), 0);
            due("under", x.book(2, 4), 0);
            due("above", x.book(0, 4), 1);
            due("not lost", x.count(7), 0);
            due("not lent", x.count(6), 0);
            due("fines", x.reader(0, 1), 0);
            same("again, all but the row", afterCounts(look(x)), afterCounts(first));
            due("more than once", x.again(0), true);
        });
        at(38, "Refused: nothing kept, BOOKS, READERS came, or THE WALL was told anew since.", () -> {
            due("nothing kept", new WallsOfBooks().again(0), false);
            refusedIn(() -> {
                WallsOfBooks x = city("", "31", "a", "");
                x.keep(1);
                x.days(2);
                return x;
            }, "nothing kept under 0", x -> x.again(0) ? 1 : 0, 0);
            for (int i : new int[] {-1, 2, LEAST, MOST}) {
                refused("again " + i, x -> x.again(i) ? 1 : 0, 0);
            }
            for (int i = 0; i < 2; i++) {
                int n = i;
                due("books came", againBehind(n, "11", x -> x.books()), false);
                due("readers came", againBehind(n, "1", x -> x.readers()), false);
                due("the wall anew", againBehind(n, "-", x -> x.wall()), false);
                due("books refused", againBehind(n, "11;", x -> x.books()), true);
                due("readers refused", againBehind(n, "1;", x -> x.readers()), true);
                due("the wall refused", againBehind(n, "-/", x -> x.wall()), true);
                due("the wall would not hold", againBehind(n, "df", x -> x.wall()), true);
                due("no books came", againBehind(n, "", x -> x.books()), true);
                due("no readers came", againBehind(n, "", x -> x.readers()), true);
                due("a rule", againBehind(n, "0", x -> x.rule()), true);
                due("kept since", againBehind(n, "11", x -> x.books() + (x.keep(n) ? 1 : 0)), true);
            }
        });
    }

    private static String afterCounts(String look) {
        return look.substring(look.indexOf("book"));
    }

    private static boolean againBehind(int i, String text, Act call) {
        WallsOfBooks x = rich();
        Check.text(x, text);
        call.on(x);
        return x.again(i);
    }
}
