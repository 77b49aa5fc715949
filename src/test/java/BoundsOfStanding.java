/** Boundary cases of promises 19 to 24: how it stands, lending. */
final class BoundsOfStanding extends Bounds {
    private static final int LEAST = Integer.MIN_VALUE;
    private static final int MOST = Integer.MAX_VALUE;

    static void run() {
        low();
        weakest();
        room();
        home();
        spares();
        sparesFaults();
        spare();
    }

    private static void low() {
        at(19, "COLUMNS with HEIGHT below h (0 .. 99; bits)", () -> {
            WallsOfBooks x = city("", "91;91;91;91;51", "abcd/e/-", "");
            due("0: none is below", x.low(0), 0);
            row("0", x, 0, 0);
            due("1: the empty one", x.low(1), 4);
            row("1", x, 1, 0);
            due("5: the height itself is not below", x.low(5), 4);
            due("6", x.low(6), 6);
            row("6", x, 7, 0);
            due("36", x.low(36), 6);
            due("37", x.low(37), 7);
            due("99", x.low(99), 7);
            row("99", x, 63 + 94 + 99, 0);
        });
        at(19, "by how much they are too low together, the least HEIGHT of all", () -> {
            WallsOfBooks x = city("", "91;51", "a/b", "");
            x.low(0);
            row("none too low", x, 0, 5);
            x.low(10);
            row("both", x, 1 + 5, 5);
            WallsOfBooks y = new WallsOfBooks();
            due("a new one", y.low(99), 1);
            row("a new one", y, 99, 0);
        });
        at(19, "NONE: another h.", () -> {
            for (int h : new int[] {-1, 100, LEAST, MOST}) {
                refused("low " + h, x -> x.low(h), -1);
            }
        });
    }

    private static void weakest() {
        at(20, "The BOOK in a COLUMN without which the least HEIGHT of all COLUMNS were the least; of equal ones the first: it; "
                + "the ROW: how much that were, how much it is.", () -> {
            WallsOfBooks x = city("99", "51;51;51;51", "dc/ba", "");
            due("all alike", x.weakest(), 0);
            row("all alike", x, 5, 10);
            Check.wall(x, "dcb/a");
            due("the only one of a column", x.weakest(), 0);
            row("the only one", x, 0, 5);
            Check.wall(x, "dcb/-");
            due("it is 0 as it is", x.weakest(), 1);
            row("it is 0 as it is", x, 0, 0);
            Check.wall(x, "d");
            due("the last", x.weakest(), 3);
            row("the last", x, 0, 5);
        });
        at(20, "-2: there are none.", () -> {
            refusedIn(WallsOfBooks::new, "no books", x -> x.weakest(), -2);
            refusedIn(() -> city("", "11;22", "-/-", "1"), "all on the heap", x -> x.weakest(), -2);
            WallsOfBooks x = city("", "11", "a", "1");
            due("one", x.weakest(), 0);
            x.lend(0, 0, 1);
            due("lent", x.weakest(), -2);
            x.undo();
            x.shot(0, 1);
            due("lost", x.weakest(), -2);
        });
    }

    private static void room() {
        at(21, "(with its BOOKS as they are; 999 at most)", () -> {
            WallsOfBooks x = city("999", "15;19", "a/b/-", "");
            due("on none", x.room(2), 999);
            due("on what bears 999", x.room(0), 999);
            Check.rule(x, "999+999");
            due("on what would bear more", x.room(0), 999);
            Check.rule(x, "998");
            due("998", x.room(0), 998);
            // As they are: one more would make n 2, but n is 1.
            Check.rule(x, "n*7");
            due("by n as it is", x.room(0), 7);
            Check.rule(x, "0");
            due("0", x.room(0), 0);
            due("on none by 0", x.room(2), 999);
        });
        at(21, "the BOOK that bears no more then (the highest such; NONE)", () -> {
            WallsOfBooks x = city("99", "15;14;13", "cba/-", "");
            x.room(1);
            row("on none", x, -1);
            // c has 9 above, b 5, a 0.
            Check.rule(x, "20");
            due("c", x.room(0), 11);
            row("c", x, 2);
            Check.rule(x, "(k=0)*20+(k=1)*16+(k=2)*11");
            due("all alike", x.room(0), 11);
            row("the highest", x, 0);
            Check.rule(x, "(k=0)*20+(k=1)*16+(k=2)*12");
            due("the lower two alike", x.room(0), 11);
            row("the higher of the two", x, 1);
            Check.rule(x, "999");
            due("990", x.room(0), 990);
            row("990", x, 2);
        });
        at(21, "-2: it does not HOLD as it is", () -> {
            Maker made = () -> {
                WallsOfBooks x = city("9", "15;14", "ba/-", "");
                Check.rule(x, "4");
                return x;
            };
            refusedIn(made, "5 on what bears 4", x -> x.room(0), -2);
            due("the empty one", made.make().room(1), 999);
            WallsOfBooks x = made.make();
            Check.rule(x, "5");
            due("5 on what bears 5", x.room(0), 0);
            row("it bears no more", x, 1);
        });
        at(21, "NONE: none such.", () -> {
            for (int c : new int[] {-1, 3, 6, LEAST, MOST}) {
                refused("room " + c, x -> x.room(c), -1);
            }
        });
    }

    private static void home() {
        at(22, "In how many DAYS (0 .. 60) all BOOKS that are LENT are back", () -> {
            WallsOfBooks x = city("", "11;11", "-", "0;9");
            due("none are lent", x.home(), 0);
            x.lend(0, 0, 1);
            due("tomorrow", x.home(), 1);
            x.lend(1, 1, 30);
            due("the most", x.home(), 39);
            x.days(38);
            due("one more", x.home(), 1);
            x.days(1);
            due("all are back", x.home(), 0);
            due("of a new one", new WallsOfBooks().home(), 0);
        });
        at(22, "the last one (of several the greatest number; NONE)", () -> {
            WallsOfBooks x = city("", "11;11;11", "-", "0;3");
            x.home();
            row("none", x, -1);
            x.lend(2, 1, 1);
            x.lend(0, 0, 4);
            x.lend(1, 0, 3);
            due("4 days", x.home(), 4);
            row("a by 4, c by 1 and 3", x, 2);
            x.recall(2);
            x.home();
            row("a alone", x, 0);
            x.days(4);
            x.home();
            row("none again", x, -1);
        });
    }

    private static void spares() {
        at(23, "so that each COLUMN whose HEIGHT is h (0 .. 99) or more keeps that", () -> {
            WallsOfBooks x = city("99", "91;81;11;51", "abc/d/-", "");
            due("0: all", x.spares(0), 4);
            row("0", x, 15);
            due("1: c stays, d stays", x.spares(1), 2);
            row("1", x, 3);
            due("5: d is as high and stays", x.spares(5), 2);
            row("5: a or b stays, with c out", x, 1 + 4);
            due("9: b and c, or a", x.spares(9), 2);
            row("9: a stays", x, 2 + 4);
            due("10", x.spares(10), 1);
            due("18: all that there is", x.spares(18), 0);
            row("18", x, 0);
            due("19", x.spares(19), 0);
            due("99", x.spares(99), 0);
            due("of a new one", new WallsOfBooks().spares(0), 0);
        });
        at(23, "and each that HOLDS HOLDS yet", () -> {
            // Three or one of them hold, two never.
            WallsOfBooks x = city("(n=3)*99", "21;21;21", "cba", "");
            due("4: two would not hold", x.spares(4), 0);
            row("4", x, 0);
            due("2: one does", x.spares(2), 2);
            row("2", x, 3);
            due("0: none does", x.spares(0), 3);
            // As it is it does not hold: it need not then either.
            Check.rule(x, "0");
            due("as it is", x.column(0, 3), 0);
            due("4", x.spares(4), 1);
            row("4", x, 1);
            // By the day on which it is asked: two bear 1 on day 1.
            Check.rule(x, "(n=3)*99+d");
            due("4 on day 0", x.spares(4), 0);
            x.days(1);
            due("4 on day 1", x.spares(4), 1);
        });
    }

    private static void sparesFaults() {
        at(23, "(others stay as they are)", () -> {
            WallsOfBooks x = city("99", "91;11;11", "a/bc", "");
            due("3: bc is too low", x.spares(3), 0);
            row("3", x, 0);
            due("2: bc is as high", x.spares(2), 0);
            due("1: bc is higher", x.spares(1), 1);
            row("1", x, 2);
            due("9: bc is too low, a is as high", x.spares(9), 0);
            due("10: all are too low", x.spares(10), 0);
            Check.rule(x, "0");
            due("bc does not hold", x.column(1, 3), 0);
            due("and is too low", x.spares(3), 0);
            row("and is too low", x, 0);
        });
        at(23, "(bits: of as many the least)", () -> {
            WallsOfBooks x = city("99", "11;11;11;11;21;21", "dbca/fe", "");
            due("3: one of four", x.spares(3), 1);
            row("3: a", x, 1);
            due("2: two of four, one of two", x.spares(2), 3);
            row("2: a, b and e", x, 1 + 2 + 16);
            due("1: three of four, one of two", x.spares(1), 4);
            row("1", x, 1 + 2 + 4 + 16);
            due("none", x.spares(5), 0);
            row("none", x, 0);
        });
        at(23, "NONE: another h.", () -> {
            for (int h : new int[] {-1, 100, LEAST, MOST}) {
                refused("spares " + h, x -> x.spares(h), -1);
            }
        });
    }

    private static void spare() {
        at(24, "so that it is the highest yet and HOLDS: of equal ones the lowest in it: it; the ROW: HEIGHT then.", () -> {
            WallsOfBooks x = city("99", "33;33;44", "bac/-", "");
            due("b and a are alike", x.spare(0), 1);
            row("b and a are alike", x, 7);
            Check.wall(x, "abc");
            due("a is lower now", x.spare(0), 0);
            Check.wall(x, "c");
            due("the only one", x.spare(0), 2);
            row("the only one", x, 0);
            // Without a or b it does not hold: 4 on what bears 3.
            Check.wall(x, "abc");
            Check.rule(x, "3");
            due("c, though it is the thickest", x.spare(0), 2);
            row("c", x, 6);
        });
        at(24, "-2: by none it HOLDS, there is none", () -> {
            Maker none = () -> city("(n=3)*99", "33;33;44", "bac/-", "");
            refusedIn(none, "by none", x -> x.spare(0), -2);
            refusedIn(none, "there is none", x -> x.spare(1), -2);
            refusedIn(WallsOfBooks::new, "a new one", x -> x.spare(0), -2);
            WallsOfBooks x = none.make();
            Check.rule(x, "d*4");
            due("on day 0", x.spare(0), -2);
            x.days(1);
            due("on day 1", x.spare(0), 1);
        });
        at(24, "NONE: none such.", () -> {
            for (int c : new int[] {-1, 3, 6, LEAST, MOST}) {
                refused("spare " + c, x -> x.spare(c), -1);
            }
        });
    }
}
