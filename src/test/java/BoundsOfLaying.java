/** Boundary cases of promises 25 to 29: laying, orders, the enemy by turns. */
final class BoundsOfLaying extends Bounds {
    private static final int LEAST = Integer.MIN_VALUE;
    private static final int MOST = Integer.MAX_VALUE;

    static void run() {
        byTheirNumbers();
        build();
        buildFaults();
        tallest();
        calls();
        callsFaults();
        stack();
        stackFaults();
        play();
        playFaults();
    }

    private static void byTheirNumbers() {
        at(TERMS, "laying (BOOKS by their numbers, each on top of a COLUMN as in lay()).", () -> {
            // a comes first, so it is always below b.
            due("the lower number bears", city("(t=2)*9", "29;12", "-", "").build(3), 2);
            due("the higher number bears", city("(t=1)*9", "29;12", "-", "").build(3), -2);
            // Three would hold, but on the way two do not.
            WallsOfBooks x = city("(n=3)*99", "11;11;11", "-", "1");
            due("not two on the way", x.build(3), -2);
            due("one", x.tallest(), 1);
            x.lend(0, 0, 1);
            due("by calls, too", x.calls(2), -2);
            // On top of what is there, as many as there is room for.
            WallsOfBooks y = city("99", "11;11;11;11;11", "abc", "");
            due("a fourth", y.build(4), 1);
            due("a fifth", y.build(5), -2);
            // On one that does not hold as it is, if it holds by that.
            Check.rule(y, "(n=4)*9");
            due("three do not hold", y.column(0, 3), 0);
            due("four do", y.build(4), 1);
            Check.rule(y, "0");
            due("four do not either", y.build(4), -2);
        });
    }

    private static void build() {
        at(25, "so that each COLUMN has HEIGHT h (0 .. 99): how many", () -> {
            WallsOfBooks x = city("99", "50;91;91;91;91", "a/-", "");
            due("0: none", x.build(0), 0);
            row("0", x);
            due("5: the height itself is enough", x.build(5), 1);
            row("5", x, 1, 1);
            due("6", x.build(6), 2);
            row("6", x, 1, 0, 2, 1);
            due("18: all", x.build(18), 4);
            WallsOfBooks y = city("99", "91;91;91;91", "abcd", "");
            due("36: none", y.build(36), 0);
            row("36", y);
            due("37", y.build(37), -2);
            due("99", y.build(99), -2);
            due("of a new one", new WallsOfBooks().build(0), 0);
        });
        at(25, "the ROW: BOOK, COLUMN, BOOK, COLUMN, ..: of as few the least row.", () -> {
            WallsOfBooks x = city("99", "11;11;21;31;21;31", "-/-", "");
            due("1: two of six", x.build(1), 2);
            row("1", x, 0, 0, 1, 1);
            due("2: two", x.build(2), 2);
            row("2: c and d are the first two that do", x, 2, 0, 3, 1);
            due("3: d and f", x.build(3), 2);
            row("3", x, 3, 0, 5, 1);
            due("5: 2 and 3, twice", x.build(5), 4);
            row("5", x, 2, 0, 3, 0, 4, 1, 5, 1);
            due("6: 1, 2 and 3, twice, or 3 and 3, and 1, 1, 2, 2", x.build(6), 6);
            row("6: d and f on one column", x, 0, 0, 1, 0, 2, 0, 3, 1, 4, 0, 5, 1);
        });
        at(25, "The fewest BOOKS of THE HEAP to be laid", () -> {
            WallsOfBooks x = city("99", "11;11;11;91", "-", "1");
            due("1: any one", x.build(1), 1);
            row("1: the first", x, 0, 0);
            due("3: one rather than three", x.build(3), 1);
            row("3", x, 3, 0);
            due("10", x.build(10), 2);
            due("12: all", x.build(12), 4);
            x.lend(3, 0, 1);
            due("3: one is lent", x.build(3), 3);
            due("4", x.build(4), -2);
        });
    }

    private static void buildFaults() {
        at(25, "-2: it can't be", () -> {
            refused("99", x -> x.build(99), -2);
            Maker bears = () -> city("(t=2)*9", "12;22", "-", "");
            due("one alone", bears.make().build(2), 1);
            // Laid by their numbers a is below, and bears nothing.
            refusedIn(bears, "both", x -> x.build(3), -2);
            refusedIn(() -> city("99", "11;11;11;11;11", "-", ""), "five in one", x -> x.build(5), -2);
            refusedIn(WallsOfBooks::new, "no books", x -> x.build(1), -2);
            due("four in one", city("99", "11;11;11;11;11", "-", "").build(4), 4);
        });
        at(25, "-3: more than 6 are on THE HEAP", () -> {
            Maker seven = () -> city("99", lines(7, "11"), "-", "1");
            refusedIn(seven, "seven", x -> x.build(1), -3);
            refusedIn(seven, "seven, none needed", x -> x.build(0), -3);
            refusedIn(() -> city("99", lines(12, "11"), "-", ""), "twelve", x -> x.build(1), -3);
            WallsOfBooks x = seven.make();
            x.lend(3, 0, 1);
            due("six", x.build(4), 4);
            row("six", x, 0, 0, 1, 0, 2, 0, 4, 0);
            x.recall(3);
            due("seven again", x.build(4), -3);
        });
        at(25, "NONE: another h.", () -> {
            for (int h : new int[] {-1, 100, LEAST, MOST}) {
                refused("build " + h, x -> x.build(h), -1);
            }
        });
    }

    private static void tallest() {
        at(26, "The greatest h (0 .. 99) for which build() can be: it; the ROW: how many BOOKS it takes.", () -> {
            WallsOfBooks x = new WallsOfBooks();
            due("no books", x.tallest(), 0);
            row("no books", x, 0);
            WallsOfBooks y = city("99", "91;91;91;91", "-", "");
            due("the highest that can be", y.tallest(), 36);
            row("the highest that can be", y, 4);
            Check.wall(y, "abcd");
            due("none on the heap", y.tallest(), 36);
            row("none on the heap", y, 0);
            Check.wall(y, "-/-/-/-/-/-");
            due("too few for all", y.tallest(), 0);
            row("too few for all", y, 0);
            WallsOfBooks z = city("99", "91;11;81;11", "-/-", "");
            due("9 and 1, 8 and 1", z.tallest(), 9);
            row("it takes three", z, 3);
            due("build of it", z.build(9), 3);
            due("build of one more", z.build(10), -2);
        });
        at(26, "-3: likewise.", () -> {
            Maker seven = () -> city("99", lines(7, "11"), "-", "1");
            refusedIn(seven, "seven", x -> x.tallest(), -3);
            WallsOfBooks x = seven.make();
            x.lend(3, 0, 1);
            due("six", x.tallest(), 4);
            row("six", x, 4);
        });
    }

    private static void calls() {
        at(27, "The fewest BOOKS that are LENT to be recalled, so that by these alone, laid, each COLUMN has HEIGHT h "
                + "(0 .. 99): how many; the ROW: likewise.", () -> {
            WallsOfBooks x = city("99", "91;11;51;91;91", "-", "0;0");
            due("none lent, 0", x.calls(0), 0);
            row("none lent, 0", x);
            due("none lent, 1", x.calls(1), -2);
            x.lend(1, 0, 1);
            x.lend(2, 0, 1);
            x.lend(3, 1, 1);
            due("1: the first that is lent", x.calls(1), 1);
            row("1", x, 1, 0);
            due("9", x.calls(9), 1);
            row("9", x, 3, 0);
            due("15: all", x.calls(15), 3);
            row("15", x, 1, 0, 2, 0, 3, 0);
            due("16: not with what is on the heap", x.calls(16), -2);
            x.lay(0, 0);
            due("9 is there", x.calls(9), 0);
            row("9 is there", x);
            due("24", x.calls(24), 3);
            due("99", x.calls(99), -2);
        });
    }

    private static void callsFaults() {
        Maker seven = () -> {
            WallsOfBooks x = city("99", lines(7, "11"), "-", "1;1;1");
            for (int b = 0; b < 7; b++) {
                x.lend(b, b / 3, 9);
            }
            return x;
        };
        at(27, "-2: it can't be", () -> {
            refused("99", x -> x.calls(99), -2);
            refusedIn(WallsOfBooks::new, "none lent", x -> x.calls(1), -2);
            WallsOfBooks x = seven.make();
            x.recall(6);
            due("four", x.calls(4), 4);
            due("a fifth has no place", x.calls(5), -2);
            row("the row of the one before", x, 0, 0, 1, 0, 2, 0, 3, 0);
        });
        at(27, "-3: more than 6 are LENT", () -> {
            refusedIn(seven, "seven", x -> x.calls(1), -3);
            refusedIn(seven, "seven, none needed", x -> x.calls(0), -3);
            WallsOfBooks x = seven.make();
            x.recall(0);
            due("six", x.calls(1), 1);
            row("six", x, 1, 0);
            WallsOfBooks y = city("99", lines(12, "11"), "-", "1");
            y.lend(11, 0, 1);
            due("eleven on the heap are not lent", y.calls(1), 1);
            row("eleven on the heap", y, 11, 0);
        });
        at(27, "NONE: another h.", () -> {
            for (int h : new int[] {-1, 100, LEAST, MOST}) {
                refused("calls " + h, x -> x.calls(h), -1);
            }
        });
    }

    private static void stack() {
        at(28, "BOOKS told as bits (1 to 4, wherever they are) one on another in a COLUMN, as if it were empty", () -> {
            WallsOfBooks x = city("99", "11;11;11;11;11;11;11;11", "abcd/e/-", "1");
            x.lend(4, 0, 1);
            x.shot(0, 1);
            due("one", x.stack(1, 0), 1);
            row("one", x, 0);
            due("two", x.stack(3, 0), 2);
            due("three", x.stack(7, 0), 6);
            due("four", x.stack(15, 0), 24);
            row("four", x, 0, 1, 2, 3);
            due("in a column, lost, lent, on the heap", x.stack(1 + 8 + 16 + 128, 1), 24);
            row("in a column, lost, lent, on the heap", x, 0, 3, 4, 7);
            due("on a column that has three", x.stack(16 + 32 + 64 + 128, 0), 24);
            due("one that came later", Check.books(x, "11") + x.stack(256, 0), 2);
            row("one that came later", x, 8);
            // Of as many as they are, not as are in it.
            Check.rule(x, "(n=2)*9");
            due("n is 2", x.stack(3, 0), 2);
            Check.rule(x, "(n=3)*9");
            due("n is not 3", x.stack(3, 0), 0);
        });
        at(28, "so that it HOLDS: how many orders do; the ROW: from below, the least row (nothing without).", () -> {
            WallsOfBooks x = city("t", "19;29;91", "-", "");
            due("none: 9 on what bears 2 or 1", x.stack(3, 0), 0);
            row("none", x);
            due("c below b", x.stack(6, 0), 2);
            row("b below c bears 1 of 2", x, 1, 2);
            due("a below c bears 1 of 1", x.stack(5, 0), 2);
            row("a below c", x, 0, 2);
            due("all: one of the two must bear the other", x.stack(7, 0), 0);
            row("all", x);
            due("one always does", x.stack(1, 0), 1);
            Check.rule(x, "0");
            due("one always does, by 0", x.stack(2, 0), 1);
            row("one always does", x, 1);
        });
    }

    private static void stackFaults() {
        at(28, "-2: another many", () -> {
            refused("none", x -> x.stack(0, 0), -2);
            refused("five", x -> x.stack(31, 0), -2);
            refused("all seven", x -> x.stack(127, 2), -2);
            due("four", rich().stack(15, 0) >= 0, true);
            due("one", rich().stack(64, 0), 1);
        });
        at(28, "NONE: bits of none such, no such COLUMN.", () -> {
            refused("the eighth of seven", x -> x.stack(128, 0), -1);
            refused("beside one that is", x -> x.stack(129, 0), -1);
            refused("many, and one of none such", x -> x.stack(255, 0), -1);
            refused("-1", x -> x.stack(-1, 0), -1);
            refused("the least", x -> x.stack(LEAST, 0), -1);
            refused("the greatest", x -> x.stack(MOST, 0), -1);
            for (int c : new int[] {-1, 3, 6, LEAST, MOST}) {
                refused("column " + c, x -> x.stack(1, c), -1);
                refused("column " + c + " of none", x -> x.stack(0, c), -1);
            }
            refusedIn(() -> city("", lines(12, "11"), "-", ""), "a thirteenth", x -> x.stack(4096, 0), -1);
            due("the twelfth", city("", lines(12, "11"), "-", "").stack(2048, 0), 1);
        });
    }

    private static void play() {
        at(29, "n turns (1 .. 4) by play", () -> {
            // b is taken; c is laid on a; c is taken again rather than a; none is left to lay.
            WallsOfBooks x = city("99", "91;51;31", "ab", "");
            int[] least = {9, 12, 9, 9};
            for (int n = 1; n <= 4; n++) {
                due("turns " + n, x.play(n), least[n - 1]);
                row("turns " + n, x, 0);
            }
        });
        at(29, "(never to return)", () -> {
            WallsOfBooks x = city("99", "91", "a", "");
            for (int n = 1; n <= 4; n++) {
                due("turns " + n, x.play(n), 0);
                row("turns " + n, x, 0);
            }
        });
        at(29, "then the city lays one of THE HEAP (or none)", () -> {
            WallsOfBooks x = city("99", "91;31", "a", "");
            due("it lays", x.play(2), 3);
            due("it is taken", x.play(3), 0);
            due("it waits, and lays behind the last the enemy can take", x.play(4), 3);
            WallsOfBooks y = city("0", "91;15;30", "ac", "");
            due("nothing that is not borne", y.play(2), 9);
            due("a, the first of all", city("99", "31;91", "b", "").play(2), 3);
            WallsOfBooks z = city("99", "11;11;11;11;91", "abcd", "");
            due("there is room by what was taken", z.play(2), 12);
            WallsOfBooks full = city("99", "11;11;11;11;91", "abcd/-", "");
            due("on the other column", full.play(2), 3);
        });
        at(29, "of as good ones the least (NONE: there are no BOOKS in COLUMNS; then it takes nothing)", () -> {
            WallsOfBooks x = city("99", "51;51;51", "-/a/b", "");
            due("none of 0 can be less", x.play(1), 0);
            row("the first that has a book", x, 1);
            Check.wall(x, "ab/c");
            due("c leaves 0", x.play(1), 0);
            row("c leaves 0", x, 1);
            Check.wall(x, "c/ab");
            x.play(1);
            row("c leaves 0, in the first", x, 0);
            WallsOfBooks two = city("99", "51;51;51;51;51", "ab/cd", "");
            due("either is mended", two.play(2), 10);
            row("either is mended", two, 0);
            Check.wall(x, "-");
            for (int n = 1; n <= 4; n++) {
                int[] least = {0, 5, 0, 5};
                due("none in columns, turns " + n, x.play(n), least[n - 1]);
                row("none in columns, turns " + n, x, -1);
            }
            WallsOfBooks y = new WallsOfBooks();
            due("no books at all", y.play(4), 0);
            row("no books at all", y, -1);
        });
    }

    private static void playFaults() {
        at(29, "-3: more than 4 are on THE HEAP", () -> {
            Maker five = () -> city("99", lines(5, "11"), "-", "1");
            for (int n = 1; n <= 4; n++) {
                int turns = n;
                refusedIn(five, "five, turns " + n, x -> x.play(turns), -3);
            }
            WallsOfBooks x = five.make();
            x.lend(0, 0, 1);
            due("four", x.play(2), 1);
            row("four", x, -1);
        });
        at(29, "NONE: another n.", () -> {
            for (int n : new int[] {0, 5, -1, LEAST, MOST}) {
                refused("play " + n, x -> x.play(n), -1);
            }
        });
        at(29, "(A turn is one move of one of the two.)", () -> {
            WallsOfBooks x = city("99", "91;51;31", "ab", "");
            due("one: the enemy alone", x.play(1), 9);
            due("two: the city, too", x.play(2), 12);
        });
    }
}
