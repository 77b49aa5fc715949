/** Promises 8 to 10, 39 and 40: what is told of one book, column, reader, of all, and the row. */
public final class ThingsTest {
    public static void main(String[] args) {
        promise8();
        promise9();
        promise10();
        promise39();
        promise40();
        Check.finish("ThingsTest");
    }

    private static void book(WallsOfBooks x, int b, int... want) {
        for (int what = 0; what < want.length; what++) {
            Check.due("book " + b + " " + what, x.book(b, what), want[what]);
        }
    }

    private static void promise8() {
        WallsOfBooks x = Check.small();
        book(x, 0, 3, 5, 1, 0, 1, -1, 12);
        book(x, 2, 4, 1, 1, 0, 0, -1, 16);
        book(x, 1, 2, 6, 1, 1, 0, -1, 8);
        book(x, 3, 1, 5, 0, -1, -1, -1, -1);
        x.days(4);
        x.lend(2, 1, 6);
        book(x, 2, 4, 1, 2, 1, -1, 10, -1);
        book(x, 0, 3, 5, 1, 0, 0, -1, 12);
        x.shot(0, 1);
        book(x, 0, 3, 5, 3, -1, -1, -1, -1);
        x.recall(2);
        book(x, 2, 4, 1, 0, -1, -1, -1, -1);
        Check.noSuch("book 5", () -> x.book(5, 0));
        Check.noSuch("book -1", () -> x.book(-1, 0));
        Check.noSuch("book what 7", () -> x.book(0, 7));
        Check.noSuch("book what -1", () -> x.book(0, -1));
        Check.noSuch("book least", () -> x.book(Integer.MIN_VALUE, Integer.MAX_VALUE));
    }

    private static void promise9() {
        WallsOfBooks x = Check.small();
        int[][] want = {{7, 2, 6, 1, 0}, {2, 1, 6, 1, 1}, {0, 0, 0, 1, -1}};
        for (int c = 0; c < 3; c++) {
            for (int what = 0; what < 5; what++) {
                Check.due("column " + c + " " + what, x.column(c, what), want[c][what]);
            }
        }
        Check.rule(x, "4");
        Check.due("4 is not 5", x.column(0, 3), 0);
        Check.rule(x, "5");
        Check.due("5 is enough", x.column(0, 3), 1);
        Check.rule(x, "5-d");
        Check.due("by the day", x.column(0, 3), 1);
        x.days(1);
        Check.due("no more", x.column(0, 3), 0);
        x.days(9);
        Check.due("again", x.column(0, 3), 1);
        Check.noSuch("column 3", () -> x.column(3, 0));
        Check.noSuch("column -1", () -> x.column(-1, 0));
        Check.noSuch("column what 5", () -> x.column(0, 5));
        Check.noSuch("column what -1", () -> x.column(0, -1));
    }

    private static void promise10() {
        WallsOfBooks x = Check.small();
        x.lend(0, 1, 1);
        x.lend(4, 1, 9);
        Check.due("late", x.reader(1, 0), 3);
        Check.due("lent", x.reader(1, 2), 17);
        Check.due("to him alone", x.reader(0, 2), 0);
        x.days(4);
        Check.due("fines", x.reader(1, 1), 3);
        Check.due("lent yet", x.reader(1, 2), 16);
        Check.noSuch("reader 2", () -> x.reader(2, 0));
        Check.noSuch("reader -1", () -> x.reader(-1, 0));
        Check.noSuch("reader what 3", () -> x.reader(0, 3));
        Check.noSuch("reader what -1", () -> x.reader(0, -1));
    }

    private static void promise39() {
        WallsOfBooks x = Check.small();
        x.lend(2, 0, 5);
        x.shot(1, 1);
        x.days(3);
        x.lay(3, 1);
        x.lay(4, 2);
        x.lay(0, 0);
        x.seen(0, 2);
        x.seen(2, 2);
        x.low(9);
        x.sign(0);
        int[] want = {5, 3, 2, 3, 0, 25, 4, 2, 1, 5, 5, 2, 4};
        for (int what = 0; what < want.length; what++) {
            Check.due("count " + what, x.count(what), want[what]);
        }
        Check.due("count 13", x.count(13), -1);
        Check.due("count -1", x.count(-1), -1);
        x.undo();
        Check.due("on the heap", x.count(4), 16);
        Check.due("the least height", x.count(8), 0);
    }

    private static void promise40() {
        WallsOfBooks x = Check.small();
        x.low(5);
        Check.row("low 5", x, 8, 0);
        Check.noSuch("row 2", () -> x.row(2));
        Check.noSuch("row -1", () -> x.row(-1));
        Check.noSuch("row least", () -> x.row(Integer.MIN_VALUE));
        // Calls that tell no row, and calls that are refused, leave it.
        x.lay(3, 2);
        x.lend(0, 0, 3);
        x.recall(0);
        x.undo();
        x.low(100);
        x.days(100);
        x.shot(2, 0);
        x.shot(3, 1);
        x.room(3);
        x.spares(-1);
        x.spare(2 + 1);
        x.build(-1);
        x.build(36);
        x.calls(36);
        x.stack(31, 0);
        x.play(0);
        Check.law(x, "x");
        Check.siege(x, "x");
        x.out(0);
        x.rests(10, 0);
        x.years(0, 0);
        x.keep(0);
        x.again(0);
        Check.row("low 5 yet", x, 8, 0);
        x.build(0);
        Check.row("an empty row", x);
        Check.noSuch("row 0 of none", () -> x.row(0));
    }
}
