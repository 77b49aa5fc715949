/** Boundary cases of promises 1 to 11: a new object, texts, one book, column or reader, sheets. */
final class BoundsOfTexts extends Bounds {
    private static final int LEAST = Integer.MIN_VALUE;
    private static final int MOST = Integer.MAX_VALUE;
    private static final String FORTY = "t+t+t+t+t+t+t+t+t+t+t+t+t+t+t+t+t+t+t-10";

    static void run() {
        anew();
        signs();
        books();
        wall();
        wallFaults();
        readers();
        rule();
        book();
        column();
        reader();
        sheet();
        sheetFaults();
    }

    private static void anew() {
        at(1, "One COLUMN without BOOKS; no BOOKS, nobody.", () -> {
            WallsOfBooks x = new WallsOfBooks();
            due("columns", x.count(1), 1);
            due("books in it", x.column(0, 1), 0);
            due("books", x.count(0), 0);
            due("readers", x.count(2), 0);
            for (int what : new int[] {3, 4, 5, 6, 7, 8, 9, 10, 11, 12}) {
                due("count " + what, x.count(what), 0);
            }
            noSuch("a second column", () -> x.column(1, 0));
            noSuch("a book", () -> x.book(0, 0));
            noSuch("a reader", () -> x.reader(0, 0));
            due("nothing kept", x.again(0) || x.again(1), false);
        });
    }

    private static void signs() {
        at(2, "Four signs come behind THE TEXT, of v the highest byte first: how many it has.", () -> {
            WallsOfBooks x = new WallsOfBooks();
            due("of none", x.sign(0x33353B32), 4);
            due("behind four", x.sign(0x36FFFFFF), 8);
            x.end(5);
            due("two books", x.books(), 2);
            due("thick", x.book(0, 0), 3);
            due("weight", x.book(0, 1), 5);
            due("thick of the second", x.book(1, 0), 2);
            due("weight of the second", x.book(1, 1), 6);
            due("0: four signs all the same", x.sign(0), 4);
            due("-1", x.sign(-1), 8);
            due("the least", x.sign(LEAST), 12);
            x.end(0);
            // A byte of 128 and more is one sign like others, and spoils none beside it.
            x.sign(0x742B80FF);
            due("t, +, and one that can't stand", x.law(), -10002);
            x.sign(0x74FF2B74);
            due("t, and one that can't stand", x.law(), -10001);
            x.sign(0xF4000000);
            due("one that is not t, though its lowest bits are", x.law(), -10000);
        });
        at(2, "Refused: there would be more than 80.", () -> {
            WallsOfBooks x = new WallsOfBooks();
            for (int many = 4; many <= 80; many += 4) {
                due("up to 80", x.sign(0x31313131), many);
            }
            due("beyond 80", x.sign(0x31313131), -1);
            due("80 yet", x.count(12), 80);
            x.end(77);
            due("77 and 4", x.sign(0x31313131), -1);
            due("77 yet", x.count(12), 77);
            x.end(76);
            due("76 and 4", x.sign(0x31313131), 80);
        });
        at(3, "THE TEXT has its first n signs alone: true", () -> {
            WallsOfBooks x = new WallsOfBooks();
            due("0 of none", x.end(0), true);
            x.sign(0x33353B32);
            due("all of them", x.end(4), true);
            due("four", x.count(12), 4);
            due("2", x.end(2), true);
            due("two", x.count(12), 2);
            due("behind the two", x.sign(0x3B323600), 6);
            due("5", x.end(5), true);
            due("35;26", x.books(), 2);
            due("the weight of the last", x.book(1, 1), 6);
            x.sign(0);
            due("0", x.end(0), true);
            due("none", x.count(12), 0);
        });
        at(3, "false if it has not so many, or n is below 0", () -> {
            WallsOfBooks x = new WallsOfBooks();
            due("1 of none", x.end(1), false);
            x.sign(0x33353B32);
            for (int n : new int[] {5, 80, 81, MOST, -1, -4, LEAST}) {
                due("end " + n, x.end(n), false);
                due("four yet", x.count(12), 4);
            }
        });
    }

    private static WallsOfBooks withBooks(int many) {
        return city("", lines(many, "11"), "-", "");
    }

    private static void books() {
        at(4, "THE TEXT tells of BOOKS (an empty one: nothing): how many LINES.", () -> {
            WallsOfBooks x = new WallsOfBooks();
            due("empty", Check.books(x, ""), 0);
            due("none", x.count(0), 0);
            due("one", Check.books(x, "11"), 1);
            due("eleven more", Check.books(x, lines(11, "11")), 11);
            due("twelve", x.count(0), 12);
            due("empty, with no room", Check.books(x, ""), 0);
            refusedText("empty", "", y -> y.books(), 0);
        });
        at(4, "-1 - p: the sign at p can't stand there", () -> {
            WallsOfBooks x = new WallsOfBooks();
            String[] bad = {"x", ";", " 11", "1x", "1;", "11x", "11,11", "111", "11;x", "11;;", "11;0", "11;1x", "11;11 "};
            int[] p = {0, 0, 0, 1, 1, 2, 2, 2, 3, 3, 3, 4, 5};
            for (int i = 0; i < bad.length; i++) {
                due("books " + bad[i], Check.books(x, bad[i]), -1 - p[i]);
            }
            due("a sign 0", Check.books(x, "11" + (char) 0), -3);
            due("a sign 255", Check.books(x, "11;1" + (char) 255), -5);
            due("a digit with a bit more", Check.books(x, "1" + (char) (128 + '1')), -2);
        });
        at(4, "its end, if it ends too early", () -> {
            WallsOfBooks x = new WallsOfBooks();
            due("1", Check.books(x, "1"), -2);
            due("11;", Check.books(x, "11;"), -4);
            due("11;1", Check.books(x, "11;1"), -5);
            due("36 signs", Check.books(x, lines(12, "11") + ";"), -37);
            due("34 signs", Check.books(x, lines(12, "11").substring(0, 34)), -35);
        });
        at(4, "36, if it has more and the first 36 could go on or end", () -> {
            WallsOfBooks x = new WallsOfBooks();
            String full = lines(12, "11") + ";";
            due("37, a digit", Check.books(x, full + "1"), -37);
            due("37, one that can't stand", Check.books(x, full + "x"), -37);
            due("80", Check.books(x, full + "1".repeat(44)), -37);
            due("the 36th can't", Check.books(x, lines(12, "11") + "x1"), -36);
            due("the 35th can't", Check.books(x, full.substring(0, 34) + "x;11"), -35);
            due("an earlier one can't", Check.books(x, "1x" + full + "11"), -2);
        });
        at(4, "the first sign of a LINE for which there is no room", () -> {
            WallsOfBooks x = withBooks(10);
            due("a third for two", Check.books(x, "11;11;11"), -7);
            due("a third for two, and it can't stand either", Check.books(x, "11;11;x"), -7);
            due("an earlier one can't stand", Check.books(x, "11;x1;11"), -4);
            due("two", Check.books(x, "11;11"), 2);
            due("one for none", Check.books(x, "11"), -1);
            due("one for none, and it can't stand either", Check.books(x, "x"), -1);
            WallsOfBooks y = withBooks(11);
            due("a second for one", Check.books(y, "11;11"), -4);
            due("it ends there", Check.books(y, "11;"), -4);
        });
        at(4, "Nothing of it comes, if a LINE can't.", () -> {
            WallsOfBooks x = withBooks(10);
            due("the third has no room", Check.books(x, "22;33;44"), -7);
            due("ten yet", x.count(0), 10);
            due("the second can't stand", Check.books(x, "22;3x"), -5);
            due("ten yet", x.count(0), 10);
            due("the second ends too early", Check.books(x, "22;3"), -5);
            due("ten yet", x.count(0), 10);
            due("none on the heap but those", x.count(4), 1023);
            refusedText("books", "22;33;0", y -> y.books(), -7);
        });
    }

    private static void wall() {
        at(5, "THE TEXT is THE WALL anew: how many COLUMNS", () -> {
            WallsOfBooks x = withBooks(12);
            due("one", Check.wall(x, "-"), 1);
            due("six", Check.wall(x, "a/bc/-/def/g/hijk"), 6);
            due("the last", x.book(7, 3), 5);
            due("fewer", Check.wall(x, "l/a"), 2);
            due("a is in another", x.book(0, 3), 1);
            due("b is out", x.book(1, 2), 0);
            due("two in all", x.count(5), 2049);
            due("the same again", Check.wall(x, "l/a"), 2);
        });
        at(5, "all other BOOKS are on THE HEAP (LENT and LOST ones, too), what was seen is forgotten.", () -> {
            WallsOfBooks x = rich();
            due("lent", x.count(6), 2 + 32);
            due("lost", x.count(7), 1);
            due("seen", x.count(9), 5);
            due("wall", Check.wall(x, "-/b"), 2);
            due("all others", x.count(4), 127 - 2);
            due("lent none", x.count(6), 0);
            due("lost none", x.count(7), 0);
            due("due no more", x.book(5, 5), -1);
            due("nobody has it", x.book(5, 3), -1);
            due("the lent one is in its column", x.book(1, 3), 1);
            due("and not due", x.book(1, 5), -1);
            due("he has none", x.reader(0, 2), 0);
            due("seen none", x.count(9), 0);
            due("none to forget", x.forget(), 0);
            x.days(99);
            row("none comes back", x, 0, 0);
        });
    }

    private static void wallFaults() {
        at(5, "-1 - p: the sign at p can't stand there", () -> {
            WallsOfBooks x = withBooks(5);
            String[] bad = {"x", "A", "/", ";", " ", "0", "a;b", "a b", "a//b", "-/-x", "ab/-a", "ab/c-", "a/b/ "};
            int[] p = {0, 0, 0, 0, 0, 0, 1, 1, 2, 3, 4, 4, 4};
            for (int i = 0; i < bad.length; i++) {
                due("wall " + bad[i], Check.wall(x, bad[i]), -1 - p[i]);
            }
            due("a sign 255", Check.wall(x, "ab" + (char) 255), -3);
            due("a letter with a bit more", Check.wall(x, "ab" + (char) (128 + 'c')), -3);
            refusedText("wall", "a/b/x", y -> y.wall(), -5);
        });
        at(5, "its end, if it ends too early", () -> {
            WallsOfBooks x = withBooks(5);
            due("empty", Check.wall(x, ""), -1);
            due("a/", Check.wall(x, "a/"), -3);
            due("-/", Check.wall(x, "-/"), -3);
            due("abcd/-/", Check.wall(x, "abcd/-/"), -8);
            due("as it was", x.count(4), 31);
        });
        at(5, "a letter of no BOOK, or told already", () -> {
            WallsOfBooks x = withBooks(5);
            due("f of five", Check.wall(x, "f"), -1);
            due("behind others", Check.wall(x, "abf"), -3);
            due("m", Check.wall(x, "e/m"), -3);
            due("the sign ahead of a", Check.wall(x, "e/`"), -3);
            due("told in this column", Check.wall(x, "aba"), -3);
            due("told in another", Check.wall(x, "ab/cb"), -5);
            due("told in the first of six", Check.wall(x, "a/-/-/-/-/a"), -11);
            due("all five", Check.wall(x, "abcd/e"), 2);
            due("told in the wall that was", Check.wall(x, "e/d"), 2);
            due("none of none", Check.wall(new WallsOfBooks(), "a"), -1);
        });
        at(5, "a fifth BOOK of a COLUMN", () -> {
            WallsOfBooks x = city("99", lines(10, "11"), "-", "");
            due("a fifth", Check.wall(x, "abcde"), -5);
            due("of another", Check.wall(x, "abcd/efghi"), -10);
            due("four and four", Check.wall(x, "abcd/efgh"), 2);
            due("of the same again", Check.wall(x, "efgha"), -5);
        });
        at(5, "the / of a seventh COLUMN", () -> {
            WallsOfBooks x = withBooks(6);
            due("a seventh", Check.wall(x, "-/-/-/-/-/-/-"), -12);
            due("its / alone", Check.wall(x, "-/-/-/-/-/-/"), -12);
            due("behind books", Check.wall(x, "ab/c/d/e/f/-/-"), -13);
            due("six", Check.wall(x, "a/b/c/d/e/f"), 6);
            due("a seventh of six", Check.wall(x, "a/b/c/d/e/f/-"), -12);
            due("six yet", x.count(1), 6);
        });
        at(5, "-200: some COLUMN would not HOLD (the text could stand).", () -> {
            WallsOfBooks x = city("5", "15;16;11", "a", "");
            due("5 on what bears 5", Check.wall(x, "ca"), 1);
            due("6 on what bears 5", Check.wall(x, "cb"), -200);
            due("the last one alone", Check.wall(x, "a/-/cb"), -200);
            due("as it was", x.book(0, 4), 1);
            due("one that can't stand behind it", Check.wall(x, "cb/x"), -4);
            due("its end behind it", Check.wall(x, "cb/"), -4);
            refusedText("wall", "df", y -> y.wall(), -200);
        });
    }

    private static void readers() {
        at(6, "THE TEXT tells of READERS (an empty one: nothing): how many LINES.", () -> {
            WallsOfBooks x = new WallsOfBooks();
            due("empty", Check.readers(x, ""), 0);
            due("nobody", x.count(2), 0);
            due("one", Check.readers(x, "7"), 1);
            due("three more", Check.readers(x, "0;9;1"), 3);
            due("four", x.count(2), 4);
            due("the last", x.reader(3, 0), 1);
            due("empty, with no room", Check.readers(x, ""), 0);
            refusedText("empty", "", y -> y.readers(), 0);
        });
        at(6, "-1 - p: as books() (7 signs).", () -> {
            WallsOfBooks x = new WallsOfBooks();
            String[] bad = {"x", ";", "11", "1x", "1;x", "1;;", "1;", "1;1;1;", "1;1;1;11", "1;1;1;1;", "1;1;1;1;1",
                "1;1;1;1x", "1;1;1;x;", "1;1;1x1;1"};
            int[] p = {0, 0, 1, 1, 2, 2, 2, 6, 7, 7, 7, 7, 6, 5};
            for (int i = 0; i < bad.length; i++) {
                due("readers " + bad[i], Check.readers(x, bad[i]), -1 - p[i]);
                due("nobody comes", x.count(2), 0);
            }
            due("80 signs", Check.readers(x, "1;".repeat(40)), -8);
            due("two", Check.readers(x, "1;2"), 2);
            due("a third for two", Check.readers(x, "3;4;5"), -5);
            due("two yet", x.count(2), 2);
            due("two more", Check.readers(x, "3;4"), 2);
            due("one for none", Check.readers(x, "5"), -1);
            refusedText("readers", "1;2;3", y -> y.readers(), -5);
        });
    }

    private static void rule() {
        at(7, "THE TEXT is THE RULE (an empty one: none): 0.", () -> {
            WallsOfBooks x = city("", "35", "a", "");
            due("one sign", Check.rule(x, "w"), 0);
            due("by it", x.book(0, 6), 5);
            due("empty", Check.rule(x, ""), 0);
            due("t*4", x.book(0, 6), 12);
            due("empty again", Check.rule(x, ""), 0);
            due("t*4 yet", x.book(0, 6), 12);
        });
        at(7, "-1 - p: as books() (40 signs).", () -> {
            WallsOfBooks x = city("w", "35", "a", "");
            String[] bad = {"x", "t+", "(t", "t x", "-", "tt", FORTY + "0", FORTY + "x", FORTY.substring(0, 39) + "+",
                "-".repeat(40), "-".repeat(40) + "t", "(" + FORTY + ")", "t+x" + FORTY, "t+".repeat(40)};
            int[] p = {0, 2, 2, 1, 1, 1, 40, 40, 40, 40, 40, 40, 2, 40};
            for (int i = 0; i < bad.length; i++) {
                due("rule " + bad[i], Check.rule(x, bad[i]), -1 - p[i]);
                due("the rule stays", x.book(0, 6), 5);
                due("the text is empty", x.count(12), 0);
            }
            due("39 signs", Check.rule(x, FORTY.substring(0, 39)), 0);
            due("40 signs", Check.rule(x, FORTY), 0);
            refusedText("rule", FORTY + "0", y -> y.rule(), -41);
        });
        at(7, "(COLUMNS that do not HOLD by it stand all the same.)", () -> {
            WallsOfBooks x = city("", "35;26;41", "ca/b", "");
            due("0", Check.rule(x, "0"), 0);
            due("it holds no more", x.column(0, 3), 0);
            due("it stands", x.column(0, 1), 2);
            due("as high", x.column(0, 0), 7);
            due("one alone holds", x.column(1, 3), 1);
        });
    }

    private static void book() {
        at(8, "3: the COLUMN, or who has it (NONE)", () -> {
            WallsOfBooks x = rich();
            int[] want = {-1, 0, 0, 2, 1, 1, -1};
            for (int b = 0; b < 7; b++) {
                due("book " + b, x.book(b, 3), want[b]);
            }
        });
        at(8, "4: its place from below (NONE)", () -> {
            WallsOfBooks x = city("", lines(5, "91"), "-/dcba", "1");
            due("the lowest", x.book(3, 4), 0);
            due("the highest", x.book(0, 4), 3);
            due("on the heap", x.book(4, 4), -1);
            x.lend(3, 0, 1);
            due("lent", x.book(3, 4), -1);
            due("sunk", x.book(0, 4), 2);
            x.shot(1, 1);
            due("lost", x.book(0, 4), -1);
        });
        at(8, "5: the day on which it is due (NONE)", () -> {
            WallsOfBooks x = rich();
            int[] want = {-1, 5, -1, -1, -1, 2, -1};
            for (int b = 0; b < 7; b++) {
                due("book " + b, x.book(b, 5), want[b]);
            }
            x.days(3);
            due("late, and due on the same day yet", x.book(5, 5), 2);
            x.days(1);
            due("back", x.book(5, 5), -1);
        });
        at(8, "6: what it BEARS (in a COLUMN; NONE)", () -> {
            // t*5-k: c 20 at 0, d 5 at 0, e 25 at 0; others are in no column.
            WallsOfBooks x = rich();
            int[] want = {-1, -1, 20, 5, 25, -1, -1};
            for (int b = 0; b < 7; b++) {
                due("book " + b, x.book(b, 6), want[b]);
            }
            Check.rule(x, "0-1");
            due("in a column, put to 0", x.book(2, 6), 0);
        });
        at(8, "NoSuchElementException: none such, another what.", () -> {
            WallsOfBooks x = rich();
            for (int b : new int[] {-1, 7, 11, 12, 64, LEAST, MOST}) {
                noSuch("book " + b, () -> x.book(b, 0));
                noSuch("book " + b + ", another what", () -> x.book(b, 7));
            }
            for (int what : new int[] {-1, 7, 8, LEAST, MOST}) {
                noSuch("what " + what, () -> x.book(0, what));
                noSuch("what " + what + " of the last", () -> x.book(6, what));
            }
            due("the last book, the first what", x.book(6, 0), 4);
            noSuch("a book of none", () -> new WallsOfBooks().book(0, 0));
        });
    }

    private static void column() {
        at(9, "what 0: HEIGHT, 1: how many BOOKS, 2: WEIGHT of all, 3: 1 if it HOLDS, 4: the highest BOOK (NONE).", () -> {
            WallsOfBooks x = city("99", "99;99;99;99;10", "abcd/e/-", "");
            int[][] want = {{36, 4, 36, 1, 3}, {1, 1, 0, 1, 4}, {0, 0, 0, 1, -1}};
            for (int c = 0; c < 3; c++) {
                for (int what = 0; what < 5; what++) {
                    due("column " + c + " " + what, x.column(c, what), want[c][what]);
                }
            }
            Check.rule(x, "26");
            due("27 on what bears 26", x.column(0, 3), 0);
            Check.rule(x, "27");
            due("27 on what bears 27", x.column(0, 3), 1);
        });
        at(9, "NoSuchElementException: likewise.", () -> {
            WallsOfBooks x = rich();
            for (int c : new int[] {-1, 3, 5, 6, LEAST, MOST}) {
                noSuch("column " + c, () -> x.column(c, 0));
                noSuch("column " + c + ", another what", () -> x.column(c, 5));
            }
            for (int what : new int[] {-1, 5, 6, LEAST, MOST}) {
                noSuch("what " + what, () -> x.column(2, what));
            }
            due("the last", x.column(2, 4), 3);
        });
    }

    private static void reader() {
        at(10, "1: FINES, 2: the BOOKS that are LENT to him (bits).", () -> {
            WallsOfBooks x = city("", lines(12, "11"), "-", "9;0");
            due("none", x.reader(0, 2), 0);
            x.lend(0, 0, 1);
            x.lend(11, 0, 1);
            x.lend(10, 1, 1);
            due("the first and the last", x.reader(0, 2), 2049);
            due("his alone", x.reader(1, 2), 1024);
            x.days(10);
            due("none again", x.reader(0, 2), 0);
            due("for two", x.reader(0, 1), 18);
            due("never late", x.reader(1, 1), 0);
        });
        at(10, "NoSuchElementException: likewise.", () -> {
            WallsOfBooks x = rich();
            for (int r : new int[] {-1, 2, 3, 4, LEAST, MOST}) {
                noSuch("reader " + r, () -> x.reader(r, 0));
                noSuch("reader " + r + ", another what", () -> x.reader(r, 3));
            }
            for (int what : new int[] {-1, 3, 4, LEAST, MOST}) {
                noSuch("what " + what, () -> x.reader(1, what));
            }
            due("the last", x.reader(1, 2), 32);
        });
    }

    private static void thick(WallsOfBooks x, int... want) {
        for (int b = 0; b < want.length; b++) {
            due("thick of " + b, x.book(b, 0), want[b]);
        }
    }

    private static void sheet() {
        at(11, "bytes (kind 0), shorts (1), ints (2) of n entries f, f + step, ..", () -> {
            WallsOfBooks x = withBooks(12);
            for (int kind = 0; kind <= 2; kind++) {
                due("12 of kind " + kind, x.sheet(kind, 12, -1, 1), 1 + 1 + 1 + 2 + 3 + 4 + 5 + 6 + 7 + 8 + 9 + 9);
                thick(x, 1, 1, 1, 2, 3, 4, 5, 6, 7, 8, 9, 9);
                due("none of kind " + kind, x.sheet(kind, 0, 7, 1), 12);
                due("one of kind " + kind, x.sheet(kind, 1, 7, 1), 7 + 11);
                due("backwards of kind " + kind, x.sheet(kind, 3, 6, -2), 6 + 4 + 2 + 9);
            }
            due("the sum goes round", x.sheet(2, 3, MOST - 1, 1), 9 + 9 + 1 + 9);
            due("the other way", x.sheet(2, 2, LEAST, -1), 1 + 9 + 10);
            due("a step that is half the round", x.sheet(2, 3, 5, LEAST), 5 + 1 + 5 + 9);
        });
        at(11, "(of bytes, shorts the lowest bits, with their sign; put to 1 .. 9)", () -> {
            WallsOfBooks x = withBooks(1);
            int[] f = {0, 1, 9, 10, -1, 127, 128, 255, 256, 261, -251, 32767, 32768, 65535, 65541, -65531, MOST, LEAST};
            int[] bytes = {1, 1, 9, 9, 1, 9, 1, 1, 1, 5, 5, 1, 1, 1, 5, 5, 1, 1};
            int[] shorts = {1, 1, 9, 9, 1, 9, 9, 9, 9, 9, 1, 9, 1, 1, 5, 5, 1, 1};
            int[] ints = {1, 1, 9, 9, 1, 9, 9, 9, 9, 9, 1, 9, 9, 9, 9, 1, 9, 1};
            for (int i = 0; i < f.length; i++) {
                due("byte of " + f[i], x.sheet(0, 1, f[i], 0), bytes[i]);
                due("short of " + f[i], x.sheet(1, 1, f[i], 0), shorts[i]);
                due("int of " + f[i], x.sheet(2, 1, f[i], 0), ints[i]);
            }
        });
        at(11, "or a missing one (3): those behind it have 1: the sum of all.", () -> {
            WallsOfBooks x = withBooks(3);
            due("one entry", x.sheet(2, 1, 9, 0), 9 + 1 + 1);
            thick(x, 9, 1, 1);
            due("two", x.sheet(2, 2, 4, 0), 4 + 4 + 1);
            due("none", x.sheet(2, 0, 9, 0), 3);
            thick(x, 1, 1, 1);
            due("as many as there are", x.sheet(2, 3, 9, 0), 27);
            due("more than there are", x.sheet(2, 12, 8, 0), 24);
            due("one that came later", Check.books(x, "37"), 1);
            thick(x, 8, 8, 8, 3);
            due("of no books", new WallsOfBooks().sheet(2, 12, 9, 0), 0);
        });
    }

    private static void sheetFaults() {
        at(11, "-2: n below 0 (of kinds 0 .. 2; nothing changes)", () -> {
            for (int kind = 0; kind <= 2; kind++) {
                int k = kind;
                refused("n -1 of kind " + kind, x -> x.sheet(k, -1, 9, 0), -2);
                refused("the least n of kind " + kind, x -> x.sheet(k, LEAST, 9, 0), -2);
                due("n 0 of kind " + kind, withBooks(2).sheet(k, 0, 9, 0), 2);
            }
            due("of kind 3", withBooks(2).sheet(3, -1, 9, 0), -3);
        });
        at(11, "-3: missing (all 1).", () -> {
            for (int n : new int[] {-1, 0, 1, 12, LEAST}) {
                WallsOfBooks x = city("", "99;88;77", "ab/c", "");
                due("missing " + n, x.sheet(3, n, 5, 1), -3);
                thick(x, 1, 1, 1);
                due("height", x.column(0, 0), 2);
                due("weight stays", x.book(0, 1), 9);
            }
            due("of no books", new WallsOfBooks().sheet(3, 1, 9, 0), -3);
        });
        at(11, "NONE: another kind, n above 12 (these first).", () -> {
            for (int kind : new int[] {-1, 4, LEAST, MOST}) {
                refused("kind " + kind, x -> x.sheet(kind, 1, 9, 0), -1);
                refused("kind " + kind + ", n below 0", x -> x.sheet(kind, -1, 9, 0), -1);
                refused("kind " + kind + ", n 13", x -> x.sheet(kind, 13, 9, 0), -1);
            }
            for (int kind = 0; kind <= 3; kind++) {
                int k = kind;
                refused("n 13 of kind " + kind, x -> x.sheet(k, 13, 9, 0), -1);
                refused("the greatest n of kind " + kind, x -> x.sheet(k, MOST, 9, 0), -1);
            }
            due("n 12", withBooks(2).sheet(0, 12, 9, 0), 18);
        });
    }
}
