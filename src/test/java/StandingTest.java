/** Promises 19 to 24: how it stands, and what can be lent. */
public final class StandingTest {
    public static void main(String[] args) {
        promise19();
        promise20();
        promise21();
        promise22();
        promise23();
        promise24();
        Check.finish("StandingTest");
    }

    private static void promise19() {
        WallsOfBooks x = Check.small();
        Check.due("-1", x.low(-1), -1);
        Check.due("100", x.low(100), -1);
        Check.due("0", x.low(0), 0);
        Check.row("0", x, 0, 0);
        Check.due("2: the height itself is not below", x.low(2), 4);
        Check.row("2", x, 2, 0);
        Check.due("99", x.low(99), 7);
        Check.row("99", x, 92 + 97 + 99, 0);
        x.lay(4, 2);
        x.low(3);
        Check.row("3", x, 1, 2);
    }

    private static void promise20() {
        WallsOfBooks x = new WallsOfBooks();
        Check.due("no books", x.weakest(), -2);
        WallsOfBooks y = Check.city("", "51;41;31;61", "dc/ba", "");
        // 9 and 9: without d 3, without c 6, without b 5, without a 4.
        Check.due("weakest", y.weakest(), 3);
        Check.row("weakest", y, 3, 9);
        Check.wall(y, "dcb/a");
        // 13 and 5: without a 0.
        Check.due("the only one", y.weakest(), 0);
        Check.row("the only one", y, 0, 5);
        Check.wall(y, "dcb/a/-");
        Check.due("of equal ones the first", y.weakest(), 0);
        Check.row("equal", y, 0, 0);
        Check.wall(y, "dcb/-");
        Check.due("the first in a column", y.weakest(), 1);
        Check.wall(y, "-");
        Check.due("none", y.weakest(), -2);
    }

    private static void promise21() {
        WallsOfBooks x = Check.small();
        Check.due("none such", x.room(3), -1);
        Check.due("none such -1", x.room(-1), -1);
        Check.due("none in it", x.room(2), 999);
        Check.row("none in it", x, -1);
        // c bears 16, 5 lie on it: 11; a bears 12.
        Check.due("c is the tight one", x.room(0), 11);
        Check.row("c", x, 2);
        Check.rule(x, "w+k*6-0*t");
        // c bears 1, below 5: it does not hold.
        Check.due("holds not", x.room(0), -2);
        Check.rule(x, "(k=0)*9+(k=1)*4");
        Check.due("both bear 4 more", x.room(0), 4);
        Check.row("the highest such", x, 0);
        Check.rule(x, "999");
        Check.due("999", x.room(1), 999);
        Check.row("it bears no more then", x, 1);
        Check.due("994", x.room(0), 994);
        Check.rule(x, "0");
        Check.due("0", x.room(1), 0);
        Check.row("b", x, 1);
    }

    private static void promise22() {
        WallsOfBooks x = Check.small();
        Check.due("none", x.home(), 0);
        Check.row("none", x, -1);
        x.days(7);
        x.lend(4, 0, 6);
        x.lend(0, 1, 5);
        x.lend(2, 1, 4);
        Check.due("6 and 2, 5 and 3", x.home(), 8);
        Check.row("of several the greatest", x, 4);
        x.days(3);
        Check.due("5 yet", x.home(), 5);
        x.recall(4);
        Check.due("a is the last", x.home(), 5);
        Check.row("a", x, 0);
        x.days(4);
        Check.row("c came", x, 4, 3);
        Check.due("1 yet", x.home(), 1);
        x.days(1);
        Check.due("all are back", x.home(), 0);
        Check.row("all are back", x, -1);
        Check.readers(x, "9");
        x.lend(0, 2, 30);
        Check.due("the most", x.home(), 39);
    }

    private static void promise23() {
        WallsOfBooks x = Check.small();
        Check.due("-1", x.spares(-1), -1);
        Check.due("100", x.spares(100), -1);
        Check.due("all", x.spares(0), 3);
        Check.row("all", x, 7);
        Check.due("1", x.spares(1), 1);
        Check.row("the least bits", x, 1);
        Check.due("4: c alone may stay", x.spares(4), 1);
        Check.row("a", x, 1);
        Check.due("5", x.spares(5), 0);
        Check.row("none", x, 0);
        Check.due("8: too low ones stay as they are", x.spares(8), 0);
        // a thick 5, b 1, c 1, d 1: two of three thin ones, or by the least bits.
        WallsOfBooks y = Check.city("", "50;10;10;10", "dcba", "");
        Check.due("7 of 8", y.spares(7), 1);
        Check.row("b", y, 2);
        Check.due("6 of 8", y.spares(6), 2);
        Check.row("b and c", y, 6);
        Check.due("3 of 8", y.spares(3), 3);
        Check.row("b, c and d", y, 14);
        // It must hold yet: a of weight 9 on c needs b between (k 1) to be borne by c of k 0.
        WallsOfBooks z = Check.city("(n=3)*99", "29;21;21", "cba", "");
        Check.due("one out and it does not hold", z.spares(4), 0);
        Check.row("none out", z, 0);
        Check.due("two out", z.spares(2), 2);
        Check.row("two out", z, 3);
        // What does not hold as it is (c 2, b 2, a 2 from below) must keep its height alone.
        Check.rule(z, "(n<3)*99");
        Check.due("holds not", z.column(0, 3), 0);
        Check.due("holds not, 0", z.spares(0), 3);
        Check.row("holds not, 0", z, 7);
        Check.due("holds not, 3", z.spares(3), 1);
        Check.row("holds not, 3", z, 1);
        Check.due("holds not, below h", z.spares(7), 0);
        Check.row("holds not, below h", z, 0);
        // Nor need it hold with fewer.
        Check.rule(z, "0");
        Check.due("never holds, 4", z.spares(4), 1);
        Check.row("never holds, 4", z, 1);
        // Beside it one that holds: that one must hold yet.
        WallsOfBooks w = Check.city("99", "29;21;21;11;11;11", "cba/fed", "");
        Check.rule(w, "(n=3)*(c=1)*99");
        Check.due("one holds, one not, 2", w.spares(2), 2);
        Check.row("one holds, one not, 2: a, b", w, 3);
        Check.due("one holds, one not, 1", w.spares(1), 4);
        Check.row("one holds, one not, 1: a, b, d, e", w, 27);
    }

    private static void promise24() {
        WallsOfBooks x = Check.small();
        Check.due("none such", x.spare(3), -1);
        Check.due("none such -1", x.spare(-1), -1);
        Check.due("there is none", x.spare(2), -2);
        Check.due("a", x.spare(0), 0);
        Check.row("a", x, 4);
        Check.due("the only one", x.spare(1), 1);
        Check.row("the only one", x, 0);
        WallsOfBooks y = Check.city("", "33;33;44", "bac", "");
        Check.due("of equal ones the lowest", y.spare(0), 1);
        Check.row("lowest", y, 7);
        Check.rule(y, "(n=3)*99");
        Check.due("by none it holds", y.spare(0), -2);
        Check.rule(y, "(n=2)*(t=4)*9+(k=0)*(t=3)*3");
        Check.due("only without c it holds", y.spare(0), 2);
        Check.row("without c", y, 6);
        // As it is it need not hold.
        Check.due("holds not", y.column(0, 3), 0);
    }
}
