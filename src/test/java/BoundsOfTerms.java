/** Boundary cases that the terms name. */
final class BoundsOfTerms extends Bounds {
    private static final String FORTY = "t+t+t+t+t+t+t+t+t+t+t+t+t+t+t+t+t+t+t-10";

    static void run() {
        books();
        columns();
        rules();
        reckoning();
        readers();
        rows();
        refusals();
        calls512();
    }

    private static void books() {
        at(TERMS, "BOOKS 0 .. (at most 12; written a .. l)", () -> {
            WallsOfBooks x = new WallsOfBooks();
            due("at first", x.count(0), 0);
            due("eleven", Check.books(x, lines(11, "11")), 11);
            due("l is none of eleven", Check.wall(x, "l"), -1);
            due("a twelfth", Check.books(x, "23"), 1);
            due("twelve", x.count(0), 12);
            due("the twelfth is l", Check.wall(x, "l"), 1);
            due("it is in the column", x.book(11, 2), 1);
            due("a is the first", Check.wall(x, "a"), 1);
            due("it is in the column", x.book(0, 2), 1);
            due("a thirteenth", Check.books(x, "11"), -1);
            due("twelve yet", x.count(0), 12);
            due("m is never one", Check.wall(x, "m"), -1);
            allOfAFullCity();
            layingInAFullCity();
            lentByAFullCity();
        });
        at(TERMS, "THICK 1 .. 9, WEIGHT 0 .. 9", () -> {
            WallsOfBooks x = new WallsOfBooks();
            due("least of both, most of both", Check.books(x, "10;99"), 2);
            due("thick 1", x.book(0, 0), 1);
            due("weight 0", x.book(0, 1), 0);
            due("thick 9", x.book(1, 0), 9);
            due("weight 9", x.book(1, 1), 9);
            due("thick 0", Check.books(x, "05"), -1);
            due("the sign ahead of 0", Check.books(x, "/5"), -1);
            due("the sign behind 9", Check.books(x, ":5"), -1);
            due("weight, the sign ahead of 0", Check.books(x, "5/"), -2);
            due("weight, the sign behind 9", Check.books(x, "5:"), -2);
        });
        at(TERMS, "They are told by a text of at most 36 signs: LINES with ; between, each one more", () -> {
            WallsOfBooks x = new WallsOfBooks();
            due("36 signs", Check.books(x, lines(12, "11") + ";"), -37);
            due("none came", x.count(0), 0);
            due("35 signs", Check.books(x, lines(12, "11")), 12);
        });
        at(TERMS, "Each BOOK is on THE HEAP (at first), in a COLUMN, LENT, or LOST.", () -> {
            WallsOfBooks x = new WallsOfBooks();
            due("three", Check.books(x, "11;11;11"), 3);
            due("on the heap", x.count(4), 7);
            due("in no column, with nobody", x.book(2, 3), -1);
            due("not due", x.book(2, 5), -1);
            due("nine more", Check.books(x, lines(9, "11")), 9);
            due("all at first", x.count(4), 4095);
            due("a reader", Check.readers(x, "1"), 1);
            x.lay(0, 0);
            x.lay(1, 0);
            x.lend(2, 0, 1);
            x.shot(0, 1);
            due("the heap", x.count(4), 4095 - 7);
            due("columns", x.count(5), 1);
            due("lent", x.count(6), 4);
            due("lost", x.count(7), 2);
            int[] where = {1, 3, 2, 0};
            for (int b = 0; b < 4; b++) {
                due("where " + b + " is", x.book(b, 2), where[b]);
            }
        });
    }

    private static WallsOfBooks full() {
        return city("99", lines(12, "11"), "ab/cd/ef/gh/ij/kl", "1;1;1;1");
    }

    /** Twelve books in six columns: the last of them count as much as the first. */
    private static void allOfAFullCity() {
        WallsOfBooks x = full();
        due("weakest", x.weakest(), 0);
        row("weakest", x, 1, 2);
        due("low 3", x.low(3), 63);
        row("low 3", x, 6, 2);
        due("room on the last", x.room(5), 98);
        row("room on the last", x, 10);
        due("spares 0", x.spares(0), 12);
        row("spares 0", x, 4095);
        due("spares 1", x.spares(1), 6);
        row("spares 1", x, 1 + 4 + 16 + 64 + 256 + 1024);
        due("spare of the last", x.spare(5), 10);
        row("spare of the last", x, 1);
        due("build 2", x.build(2), 0);
        due("build 3", x.build(3), -2);
        due("tallest", x.tallest(), 2);
        row("tallest", x, 0);
        due("stack of the last four on the last", x.stack(3840, 5), 24);
        row("stack of the last four on the last", x, 8, 9, 10, 11);
        int[] least = {1, 1, 0, 0};
        for (int n = 1; n <= 4; n++) {
            due("play " + n, x.play(n), least[n - 1]);
            row("play " + n, x, 0);
        }
        due("law", Check.law(x, "0"), 0);
        row("law", x, 63, -12 * 99);
        due("look", x.look(), 0);
        row("look", x, 3);
        for (int c = 0; c < 6; c++) {
            due("seen " + c, x.seen(c, 1), c + 1);
        }
        due("out of the last", x.out(5), 2);
        row("out of the last", x, 1024, 0);
        due("all were seen", x.look(), -2);
        due("none is on the heap, so none is laid", x.years(1, 60), 0);
        due("thick of all", x.sheet(2, 12, 9, 0), 108);
        due("thick of the last", x.column(5, 0), 18);
    }

    private static void layingInAFullCity() {
        WallsOfBooks x = city("99", lines(12, "11"), "ab/c/d/e/f/g", "1");
        due("build", x.build(2), 5);
        row("build", x, 7, 1, 8, 2, 9, 3, 10, 4, 11, 5);
        due("tallest", x.tallest(), 2);
        row("tallest", x, 5);
        due("lend", x.lend(11, 0, 1), 1);
        due("one is missing", x.build(2), -2);
        due("calls", x.calls(1), 0);
        int[] least = {0, 1, 0, 1};
        int[] first = {1, 0, 0, 0};
        for (int n = 1; n <= 4; n++) {
            due("play " + n, x.play(n), least[n - 1]);
            row("play " + n, x, first[n - 1]);
        }
        Check.rule(x, "0");
        due("nothing is borne in the last turn", x.play(2), 1);
        x.recall(11);
        due("nothing is borne by any of the six", x.build(2), -2);
    }

    private static void lentByAFullCity() {
        WallsOfBooks x = full();
        for (int b = 0; b < 12; b++) {
            due("lend " + b, x.lend(b, b / 3, 1 + b / 11), 1 + b / 11);
        }
        due("no book is in a column", x.weakest(), -2);
        due("the last reader", x.reader(3, 2), 512 + 1024 + 2048);
        due("home", x.home(), 3);
        row("home", x, 11);
        due("twelve are lent", x.calls(0), -3);
        due("two days", x.days(2), 2);
        row("all but the last", x, 2047, 11);
        due("the last is recalled", x.calls(1), -2);
        due("one more", x.days(1), 3);
        row("the last", x, 2048, 1);
        due("the last is shot", x.lay(11, 5) + x.shot(5, 4), 1);
        row("the last is shot", x, 2048);
    }

    private static void columns() {
        at(TERMS, "COLUMNS 1 .. 6 (at first 1)", () -> {
            WallsOfBooks x = new WallsOfBooks();
            due("at first", x.count(1), 1);
            due("six", Check.wall(x, "-/-/-/-/-/-"), 6);
            due("the sixth", x.column(5, 0), 0);
            noSuch("a seventh", () -> x.column(6, 0));
            due("seven", Check.wall(x, "-/-/-/-/-/-/-"), -12);
            due("none", Check.wall(x, ""), -1);
            due("six yet", x.count(1), 6);
            due("one", Check.wall(x, "-"), 1);
            noSuch("a second", () -> x.column(1, 0));
        });
        at(TERMS, "in each 0 .. 4 BOOKS, one on another", () -> {
            WallsOfBooks x = city("", "91;91;91;91;91", "-/-", "");
            due("none", x.column(0, 1), 0);
            due("four told", Check.wall(x, "-/abcd"), 2);
            due("four", x.column(1, 1), 4);
            due("a fifth told", Check.wall(x, "-/abcde"), -7);
            due("a fifth laid", x.lay(4, 1), -3);
            due("four yet", x.column(1, 1), 4);
        });
        at(TERMS, "of each the letters of its BOOKS from below (each BOOK once in all), or - for none.", () -> {
            WallsOfBooks x = city("", "91;91;91", "-", "");
            due("twice in one", Check.wall(x, "aa"), -2);
            due("twice in two", Check.wall(x, "ab/a"), -4);
            due("- twice", Check.wall(x, "--"), -2);
            due("- ahead", Check.wall(x, "-a"), -2);
            due("- behind", Check.wall(x, "a-"), -2);
            due("nothing for none", Check.wall(x, "/a"), -1);
            due("nothing for none, between", Check.wall(x, "a//b"), -3);
            due("each once", Check.wall(x, "-/cab/-"), 3);
            due("from below", x.book(2, 4), 0);
            due("the highest", x.column(1, 4), 1);
        });
        at(TERMS, "HEIGHT of a COLUMN: THICK of its BOOKS, added up.", () -> {
            WallsOfBooks x = city("", "91;91;91;91;10", "abcd/e/-", "");
            due("the highest that can be", x.column(0, 0), 36);
            due("the least of one", x.column(1, 0), 1);
            due("of none", x.column(2, 0), 0);
        });
        at(TERMS, "A COLUMN HOLDS, if of each of its BOOKS the WEIGHT of all above it is no more than it BEARS.", () -> {
            WallsOfBooks x = city("9", "10;15;14;10;10", "abc/-", "");
            due("9 on what bears 9", x.column(0, 3), 1);
            due("none hold nothing up", x.column(1, 3), 1);
            due("8", Check.rule(x, "8"), 0);
            due("9 on what bears 8", x.column(0, 3), 0);
            due("the one between alone bears too little", Check.rule(x, "9-(k=1)*6"), 0);
            due("4 on what bears 3", x.column(0, 3), 0);
            due("the one between bears just enough", Check.rule(x, "9-(k=1)*5"), 0);
            due("4 on what bears 4", x.column(0, 3), 1);
            due("the highest need bear nothing", Check.rule(x, "9-(k=2)*9"), 0);
            due("0 on what bears 0", x.column(0, 3), 1);
        });
    }

    /** What the only book (thick 3, weight 5) bears by that rule. */
    private static int bears(String rule) {
        WallsOfBooks x = city("", "35", "a", "");
        due("rule " + rule, Check.rule(x, rule), 0);
        return x.book(0, 6);
    }

    private static void reckons(String rule, int bears) {
        due("by " + rule, bears(rule), bears);
    }

    private static void cannotStand(String rule, int p) {
        WallsOfBooks x = new WallsOfBooks();
        due("rule " + rule, Check.rule(x, rule), -1 - p);
    }

    private static void rules() {
        at(TERMS, "THE RULE is a text of at most 40 signs (at first none: t*4).", () -> {
            WallsOfBooks x = new WallsOfBooks();
            due("a book", Check.books(x, "35"), 1);
            due("a wall", Check.wall(x, "a"), 1);
            due("at first", x.book(0, 6), 12);
            due("40 signs", FORTY.length(), 40);
            due("40", Check.rule(x, FORTY), 0);
            due("by 40", x.book(0, 6), 19 * 3 - 10);
            due("41", Check.rule(x, FORTY + "0"), -41);
            due("by 40 yet", x.book(0, 6), 47);
            due("none", Check.rule(x, ""), 0);
            due("as at first", x.book(0, 6), 12);
        });
        at(TERMS, "< > = bind least (two; 1 or 0; not one behind the other)", () -> {
            String[] two = {"1<2", "2<2", "2<1", "2>1", "2>2", "1>2", "2=2", "1=2"};
            int[] worth = {1, 0, 0, 1, 0, 0, 1, 0};
            for (int i = 0; i < two.length; i++) {
                reckons(two[i], worth[i]);
            }
            reckons("3+(2<2)+(2>2)*9+(1=2)*9", 3);
            WallsOfBooks again = city("1<2", "35", "a", "");
            for (int i = 0; i < 3; i++) {
                due("by a law", Check.law(again, "1>2"), 1);
                due("by a rule", Check.rule(again, "1<2"), 0);
            }
            reckons("1+1=2", 1);
            reckons("5=2*2+1", 1);
            reckons("(1<2)<2", 1);
            reckons("0<(1<2)", 1);
            String[] three = {"1<2<3", "1>2>3", "1=2=3", "1<2>3", "1>2=3", "1=2<3"};
            for (String s : three) {
                cannotStand(s, 3);
            }
            cannotStand("1+1<2*2<3", 7);
            cannotStand("(1<2<3)", 4);
            cannotStand("(1<2)<3<4", 7);
            cannotStand("<1", 0);
            cannotStand("1<", 2);
            cannotStand("1<=2", 2);
        });
        at(TERMS, "then + - (from the left)", () -> {
            reckons("9-4-3", 2);
            reckons("9-4+3", 8);
            reckons("2+3*4-1", 13);
            cannotStand("+1", 0);
            cannotStand("1+", 2);
            cannotStand("1-", 2);
        });
        at(TERMS, "then * / (from the left; by 0: 0; cut to 0)", () -> {
            reckons("9/4*2", 4);
            reckons("2*9/4", 4);
            reckons("99/3/3", 11);
            reckons("7/0", 0);
            reckons("7/0+3", 3);
            reckons("0/0+3", 3);
            reckons("9/(t-3)+1", 1);
            reckons("7/2", 3);
            reckons("10+-7/2", 7);
            reckons("10+7/-2", 7);
            reckons("10+-7/-2", 13);
            cannotStand("*1", 0);
            cannotStand("1*/2", 2);
            cannotStand("1/", 2);
        });
        at(TERMS, "then - ahead of a thing (any many)", () -> {
            reckons("9+-3", 6);
            reckons("--3", 3);
            reckons("9+---3", 6);
            reckons("9--3", 12);
            reckons("9+-3*2", 3);
            reckons("9+2*-3", 3);
            reckons("9+-(2+1)", 6);
            reckons("-".repeat(38) + "t", 3);
            reckons("-".repeat(39) + "t", 0);
            cannotStand("-", 1);
            cannotStand("-".repeat(40), 40);
            cannotStand("-*3", 1);
        });
        at(TERMS, "a NUMBER of 1 to 3 digits", () -> {
            reckons("0", 0);
            reckons("9", 9);
            reckons("10", 10);
            reckons("999", 999);
            reckons("007", 7);
            cannotStand("1000", 3);
            cannotStand("0000", 3);
            cannotStand("1+2345", 5);
            cannotStand("9t", 1);
            cannotStand("t9", 1);
        });
        at(TERMS, "an EXPRESSION in ( ) (at most 4 in one another)", () -> {
            reckons("((((7))))", 7);
            reckons("((((1))))+((((2))))", 3);
            reckons("((((7))))*(1+(1))", 14);
            cannotStand("(((((7)))))", 4);
            cannotStand("1+((((1+(2)))))", 8);
            cannotStand("()", 1);
            cannotStand("(7", 2);
            cannotStand("7)", 1);
            cannotStand("(7))", 3);
            cannotStand("(", 1);
            cannotStand("(7)(7)", 3);
        });
    }

    private static void reckoning() {
        at(TERMS, "c the COLUMN, k its place from below (0 ..), n how many BOOKS are in the COLUMN", () -> {
            WallsOfBooks x = city("", "90;90;90;90;90", "abcd/-/-/-/-/e", "");
            Check.rule(x, "c");
            due("the first column", x.book(0, 6), 0);
            due("the sixth", x.book(4, 6), 5);
            Check.rule(x, "k");
            due("the lowest", x.book(0, 6), 0);
            due("the highest", x.book(3, 6), 3);
            Check.rule(x, "n");
            due("of four", x.book(0, 6), 4);
            due("of one", x.book(4, 6), 1);
            x.shot(0, 3);
            due("one is left", x.book(0, 6), 1);
        });
        at(TERMS, "d DAY by 10 (rest)", () -> {
            WallsOfBooks x = city("d", "30", "a", "");
            int[] pass = {0, 9, 1, 9, 1, 79, 1};
            int[] rest = {0, 9, 0, 9, 0, 9, 0};
            for (int i = 0; i < pass.length; i++) {
                x.days(pass[i]);
                due("on day " + x.count(3), x.book(0, 6), rest[i]);
            }
            due("that day", x.count(3), 100);
        });
        at(TERMS, "As ints, put to 0 .. 999: what it BEARS.", () -> {
            reckons("999", 999);
            reckons("999+1", 999);
            reckons("998+1", 999);
            reckons("1-1", 0);
            reckons("1-2", 0);
            // Only the end is put to 0 .. 999, not what is between.
            reckons("999*9-999*8", 999);
            reckons("1-9+20", 12);
            // 2991008997 is -1303958299 as an int, 4985014995 is 690047699, 2147483648 is itself below 0.
            reckons("999*999*999*3", 0);
            reckons("999*999*999*3<0", 1);
            reckons("999*999*999*5", 999);
            reckons("512*512*512*16<0", 1);
            reckons("-(512*512*512*16)<0", 1);
            reckons("512*512*512*16/-1<0", 1);
            reckons("512*512*512*16-1>0", 1);
            reckons("512*512*512*32+7", 7);
        });
    }

    private static void readers() {
        at(TERMS, "READERS 0 .. (at most 4): LATE 0 .. 9 (days), FINES (at first 0).", () -> {
            WallsOfBooks x = new WallsOfBooks();
            due("at first", x.count(2), 0);
            due("four", Check.readers(x, "0;9;1;2"), 4);
            due("late 0", x.reader(0, 0), 0);
            due("late 9", x.reader(1, 0), 9);
            due("the fourth", x.reader(3, 0), 2);
            due("fines", x.reader(3, 1), 0);
            due("a fifth", Check.readers(x, "1"), -1);
            due("four yet", x.count(2), 4);
            WallsOfBooks y = new WallsOfBooks();
            due("the sign ahead of 0", Check.readers(y, "/"), -1);
            due("the sign behind 9", Check.readers(y, ":"), -1);
        });
        at(TERMS, "They are told by a text of at most 7 signs", () -> {
            WallsOfBooks x = new WallsOfBooks();
            due("8 signs", Check.readers(x, "1;1;1;1;"), -8);
            due("nobody came", x.count(2), 0);
            due("7 signs", Check.readers(x, "1;1;1;1"), 4);
        });
        at(TERMS, "Each has at most 3 BOOKS.", () -> {
            WallsOfBooks x = city("", lines(7, "11"), "-", "0;0");
            for (int b = 0; b < 3; b++) {
                due("lent " + b, x.lend(b, 0, 9), 9);
            }
            due("a fourth", x.lend(3, 0, 9), -3);
            due("three", x.reader(0, 2), 7);
            due("to another", x.lend(3, 1, 9), 9);
            x.recall(1);
            due("two again, so a third", x.lend(4, 0, 9), 9);
            due("a fourth again", x.lend(5, 0, 9), -3);
        });
        at(TERMS, "A DAY (DAY is 1 more, at first 0): then each BOOK that is LENT comes to THE HEAP, if DAY is the day on "
                + "which it is due and LATE of who has it; FINES of that one are LATE more.", () -> {
            WallsOfBooks x = city("", "11;11;11", "-", "0;9");
            due("at first", x.count(3), 0);
            x.lend(0, 0, 1);
            x.lend(1, 1, 30);
            x.lend(2, 1, 29);
            due("a day", x.days(1), 1);
            due("never late: on the day itself", x.book(0, 2), 0);
            due("no fines", x.reader(0, 1), 0);
            due("day 37", x.days(36), 37);
            due("two are out yet", x.count(6), 6);
            due("no fines yet", x.reader(1, 1), 0);
            due("day 38", x.days(1), 38);
            due("29 and 9", x.count(6), 2);
            due("fines", x.reader(1, 1), 9);
            due("day 39", x.days(1), 39);
            due("30 and 9", x.count(6), 0);
            due("fines of both", x.reader(1, 1), 18);
            due("not the other's", x.reader(0, 1), 0);
        });
    }

    private static void rows() {
        at(TERMS, "ROW: numbers told last by a call that says so.", () -> {
            WallsOfBooks x = rich();
            row("low 9", x, 5 + 4 + 8, 1);
            x.sign(0);
            x.end(1);
            Check.books(x, "11");
            Check.readers(x, "1");
            Check.rule(x, "99");
            Check.wall(x, "a/b");
            x.sheet(2, 3, 4, 0);
            x.lay(2, 0);
            x.lend(3, 0, 3);
            x.recall(3);
            x.undo();
            x.seen(0, 3);
            x.forget();
            x.keep(0);
            x.again(0);
            x.count(0);
            x.book(0, 0);
            x.column(0, 0);
            x.reader(0, 0);
            row("calls that say of no row", x, 17, 1);
            x.days(0);
            row("one that does", x, 0, 0);
            x.build(0);
            row("one that tells no number", x);
            due("a new one has none", new WallsOfBooks().count(11), 0);
        });
        at(TERMS, "Rows of numbers are compared from the first on.", () -> {
            WallsOfBooks x = city("99", "50;20;10;20", "-/-", "");
            due("two for 2", x.build(2), 2);
            row("from the last on it were 0 1 1 0", x, 0, 0, 1, 1);
            due("all orders", x.stack(7, 0), 6);
            row("from the last on it were 2 1 0", x, 0, 1, 2);
            due("pairs of days", x.rests(1, 0), 19);
            row("from the last on it were 9 0", x, 0, 9);
        });
        at(TERMS, "Sets (of BOOKS, COLUMNS) are bits.", () -> {
            WallsOfBooks x = city("", lines(12, "11"), "-/-/-/-/-/-", "1");
            due("all books", x.count(4), 4095);
            due("all columns", x.low(1), 63);
            x.lend(11, 0, 1);
            due("the last book", x.reader(0, 2), 2048);
            x.lend(0, 0, 1);
            due("the first one, too", x.count(6), 2049);
            x.seen(5, 0);
            due("the last column", x.count(9), 32);
        });
        at(TERMS, "Questions change nothing.", () -> {
            for (int h : new int[] {0, 1, 9, 99}) {
                question("low", null, x -> x.low(h));
                question("spares", null, x -> x.spares(h));
                question("build", null, x -> x.build(h));
                question("calls", null, x -> x.calls(h));
            }
            for (int c = 0; c < 3; c++) {
                int column = c;
                question("room", null, x -> x.room(column));
                question("spare", null, x -> x.spare(column));
                question("out", null, x -> x.out(column));
                question("stack", null, x -> x.stack(15, column));
            }
            for (int n = 1; n <= 4; n++) {
                int turns = n;
                question("play", null, x -> x.play(turns));
                question("years", null, x -> x.years(turns, 15 * turns));
                question("rests", null, x -> x.rests(turns, turns));
            }
            question("weakest", null, x -> x.weakest());
            question("home", null, x -> x.home());
            question("tallest", null, x -> x.tallest());
            question("look", null, x -> x.look());
            question("law", "", x -> x.law());
            question("law", "n*9-k", x -> x.law());
            question("look at it", null, x -> look(x).length());
        });
    }

    private static void refusals() {
        at(TERMS, "Refused calls answer NONE, or false, and change nothing but THE TEXT, which a call that reads it empties.", () -> {
            refused("end", x -> x.end(5) ? 1 : 0, 0);
            refused("sheet", x -> x.sheet(4, 1, 1, 1), -1);
            refused("sheet", x -> x.sheet(0, 13, 1, 1), -1);
            refused("sheet", x -> x.sheet(0, -1, 1, 1), -2);
            refused("lay", x -> x.lay(7, 0), -1);
            refused("lay", x -> x.lay(0, 0), -2);
            refused("lend", x -> x.lend(6, 2, 1), -1);
            refused("lend", x -> x.lend(1, 1, 1), -2);
            refused("recall", x -> x.recall(-1), -1);
            refused("recall", x -> x.recall(6), -2);
            refused("shot", x -> x.shot(0, 5), -1);
            refused("days", x -> x.days(100), -1);
            refused("low", x -> x.low(100), -1);
            refused("room", x -> x.room(3), -1);
            refused("spares", x -> x.spares(-1), -1);
            refused("spare", x -> x.spare(-1), -1);
            refused("build", x -> x.build(100), -1);
            refused("build", x -> x.build(99), -2);
            refused("calls", x -> x.calls(-1), -1);
            refused("calls", x -> x.calls(99), -2);
            refused("stack", x -> x.stack(128, 0), -1);
            refused("stack", x -> x.stack(127, 0), -2);
            refused("play", x -> x.play(5), -1);
            refused("seen", x -> x.seen(3, 1), -1);
            refused("out", x -> x.out(3), -1);
            refused("out", x -> x.out(1), -2);
            refused("rests", x -> x.rests(10, 10), -1);
            refused("years", x -> x.years(1, 61), -1);
            refused("keep", x -> x.keep(2) ? 1 : 0, 0);
            refused("again", x -> x.again(2) ? 1 : 0, 0);
            refused("count", x -> x.count(13), -1);
            refusedIn(WallsOfBooks::new, "undo", x -> x.undo(), -1);
            refusedText("books", "11;1", x -> x.books(), -5);
            refusedText("wall", "ab/a", x -> x.wall(), -4);
            refusedText("wall", "", x -> x.wall(), -1);
            refusedText("readers", "1;2;3", x -> x.readers(), -5);
            refusedText("rule", "t+", x -> x.rule(), -3);
            refusedText("siege", "d1;lg0;", x -> x.siege(), -8);
            refusedText("law", "t+", x -> x.law(), -10002);
            refusedIn(() -> full(0), "sign", x -> x.sign(0x74747474), -1);
            refusedIn(() -> full(1), "sign", x -> x.sign(0x74747474), -1);
        });
    }

    /** A text of 80 signs, cut by so many. */
    static WallsOfBooks full(int cut) {
        WallsOfBooks x = new WallsOfBooks();
        Check.text(x, "1".repeat(80 - cut));
        return x;
    }

    private static void calls512() {
        at(TERMS, "An object is used for at most 512 calls after it has been made", () -> {
            WallsOfBooks x = new WallsOfBooks();
            due("call 1", x.sign(0x31300000), 4);
            due("call 2", x.end(2), true);
            due("call 3", x.books(), 1);
            for (int call = 4; call <= 512; call++) {
                due("call " + call, x.days(99), (call - 3) * 99);
            }
        });
    }
}
