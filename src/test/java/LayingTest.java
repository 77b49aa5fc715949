/** Promises 25 to 29: laying, stacking, and the enemy by turns. */
public final class LayingTest {
    public static void main(String[] args) {
        promise25();
        promise26();
        promise27();
        promise28();
        promise29();
        Check.finish("LayingTest");
    }

    private static void promise25() {
        WallsOfBooks x = Check.small();
        Check.due("-1", x.build(-1), -1);
        Check.due("100", x.build(100), -1);
        Check.due("0", x.build(0), 0);
        Check.row("0", x);
        Check.due("1", x.build(1), 1);
        Check.row("the least row", x, 3, 2);
        Check.due("2", x.build(2), 1);
        Check.row("e alone does", x, 4, 2);
        Check.due("3", x.build(3), 2);
        Check.row("3", x, 3, 1, 4, 2);
        Check.due("4", x.build(4), -2);
        Check.row("the row stays", x, 3, 1, 4, 2);
        WallsOfBooks y = Check.city("99", "11;11;51;41;31;91;91", "g/-", "");
        Check.due("6 on the heap", y.build(9), 1);
        Check.row("f", y, 5, 1);
        Check.due("10: one for each", y.build(10), 3);
        Check.row("10", y, 0, 0, 1, 1, 5, 1);
        Check.due("12", y.build(12), 3);
        Check.row("12", y, 2, 0, 3, 1, 5, 1);
        Check.due("15", y.build(15), 5);
        Check.row("15", y, 0, 0, 2, 0, 3, 1, 4, 1, 5, 1);
        Check.due("16", y.build(16), 6);
        Check.row("16", y, 0, 0, 1, 0, 2, 0, 3, 1, 4, 1, 5, 1);
        Check.due("17", y.build(17), -2);
        Check.due("36", y.build(36), -2);
        Check.books(y, "11");
        Check.due("7 on the heap", y.build(0), -3);
        Check.due("7 on the heap, 100", y.build(100), -1);
        // By their numbers: a (weight 9) is laid ahead of b, so b lies on a, never a on b.
        WallsOfBooks z = Check.city("(t=2)*9", "29;12", "-", "");
        Check.due("a, then b", z.build(3), 1 + 1);
        Check.row("a, then b", z, 0, 0, 1, 0);
        WallsOfBooks w = Check.city("(t=1)*9", "29;12", "-", "");
        Check.due("b below can't be", w.build(3), -2);
        // On its way each must hold, as in lay().
        WallsOfBooks v = Check.city("(n=3)*99", "11;11;11", "-", "");
        Check.due("two never hold", v.build(3), -2);
        Check.due("one does", v.build(1), 1);
        // Four at most in a column.
        WallsOfBooks u = Check.city("99", "11;11;11;11;11", "-", "");
        Check.due("four", u.build(4), 4);
        Check.due("five", u.build(5), -2);
    }

    private static void promise26() {
        WallsOfBooks x = Check.small();
        Check.due("small", x.tallest(), 3);
        Check.row("small", x, 2);
        WallsOfBooks y = Check.city("99", "11;11;51;41;31;91;91", "g/-", "");
        Check.due("16", y.tallest(), 16);
        Check.row("16", y, 6);
        Check.books(y, "11");
        Check.due("7 on the heap", y.tallest(), -3);
        WallsOfBooks z = Check.city("", "91;91", "a/b", "");
        Check.due("none on the heap", z.tallest(), 9);
        Check.row("none on the heap", z, 0);
        WallsOfBooks u = Check.city("99", "91;91;91;91", "-", "");
        Check.due("the highest", u.tallest(), 36);
        Check.row("the highest", u, 4);
    }

    private static void promise27() {
        WallsOfBooks x = Check.city("", "91;91;91;91;91;91", "abcd/ef", "9;1;1");
        Check.due("-1", x.calls(-1), -1);
        Check.due("100", x.calls(100), -1);
        Check.due("none lent, none needed", x.calls(18), 0);
        Check.row("none", x);
        Check.due("none lent", x.calls(19), -2);
        x.lend(0, 0, 1);
        x.lend(1, 0, 1);
        x.lend(2, 1, 1);
        Check.due("27", x.calls(27), 3);
        Check.row("27", x, 0, 0, 1, 0, 2, 1);
        Check.due("10", x.calls(10), 1);
        Check.row("10", x, 0, 0);
        Check.due("28", x.calls(28), -2);
        Check.due("nothing was recalled", x.count(6), 7);
        x.recall(0);
        Check.due("by these alone", x.calls(27), -2);
        Check.due("with the other two", x.calls(18), 1);
        Check.row("b", x, 1, 0);
        WallsOfBooks y = Check.city("", "11;11;11;11;11;11;11", "-", "1;1;1");
        for (int b = 0; b < 6; b++) {
            y.lend(b, b / 3, 5);
        }
        Check.due("six are lent", y.calls(1), 1);
        y.lend(6, 2, 5);
        Check.due("seven are lent", y.calls(0), -3);
        Check.due("seven are lent, 100", y.calls(100), -1);
    }

    private static void promise28() {
        WallsOfBooks x = Check.small();
        Check.due("a, b", x.stack(3, 0), 2);
        Check.row("a, b", x, 0, 1);
        Check.due("a, d: d bears 4", x.stack(9, 2), 1);
        Check.row("a below", x, 0, 3);
        Check.due("one", x.stack(16, 1), 1);
        Check.row("one", x, 4);
        Check.due("none", x.stack(0, 0), -2);
        Check.due("five", x.stack(31, 0), -2);
        Check.due("a sixth", x.stack(32, 0), -1);
        Check.due("six of five", x.stack(63, 0), -1);
        Check.due("-1", x.stack(-1, 0), -1);
        Check.due("least", x.stack(Integer.MIN_VALUE, 0), -1);
        Check.due("no such column", x.stack(1, 3), -1);
        Check.due("column -1", x.stack(1, -1), -1);
        Check.rule(x, "0");
        Check.due("no order", x.stack(3, 0), 0);
        Check.row("nothing", x);
        Check.rule(x, "99");
        Check.due("all orders", x.stack(30, 0), 24);
        Check.row("all orders", x, 1, 2, 3, 4);
        x.lend(1, 0, 2);
        x.shot(0, 1);
        Check.due("wherever they are", x.stack(30, 0), 24);
        Check.rule(x, "c*9");
        Check.due("by the column", x.stack(3, 0), 0);
        Check.due("by the column", x.stack(3, 1), 2);
        Check.rule(x, "(n=2)*9");
        Check.due("as many as they are", x.stack(3, 0), 2);
        Check.rule(x, "(t=4)*9+(t=2)*5");
        // c below, b, then a (weight 5); c then a then b: a bears 0.
        Check.due("c, b, d holds: 11 above 9 does not", x.stack(2 + 4 + 8, 0), 0);
        Check.due("b, d", x.stack(2 + 8, 0), 1);
        Check.row("b, d", x, 1, 3);
        Check.due("the wall is as it was", x.column(0, 1), 1);
    }

    private static void promise29() {
        WallsOfBooks x = Check.small();
        Check.due("0", x.play(0), -1);
        Check.due("5", x.play(5), -1);
        Check.due("1", x.play(1), 0);
        Check.row("1", x, 0);
        Check.due("2", x.play(2), 0);
        Check.row("2", x, 1);
        WallsOfBooks y = new WallsOfBooks();
        Check.due("no books", y.play(1), 0);
        Check.row("no books", y, -1);
        Check.books(y, "51;31");
        Check.due("none in columns, then the city", y.play(2), 5);
        Check.row("none in columns", y, -1);
        Check.due("then the enemy", y.play(3), 0);
        Check.due("the city waits", y.play(4), 5);
        Check.due("the heap is as it was", y.count(4), 3);
        // 9+5 and 9: the enemy takes a or c; the city has d of 4 for it.
        WallsOfBooks z = Check.city("", "91;51;91;41", "ab/c", "");
        Check.due("by one", z.play(1), 0);
        Check.row("by one", z, 1);
        Check.due("by two", z.play(2), 4);
        Check.row("by two", z, 1);
        Check.due("by three", z.play(3), 0);
        Check.row("of as good ones the least", z, 0);
        // Five on the heap.
        WallsOfBooks w = Check.city("", "11;11;11;11;11", "-", "");
        Check.due("five", w.play(1), -3);
        Check.due("five, 0", w.play(0), -1);
        // The city lays only what holds: b is not borne by a.
        WallsOfBooks v = Check.city("0", "11;91;20;10", "ac/d", "");
        Check.due("what is not borne", v.play(2), 1);
        Check.row("what is not borne", v, 0);
        // The borrowed one does not return.
        WallsOfBooks u = Check.city("", "91", "a", "");
        Check.due("never to return", u.play(2), 0);
        Check.due("never to return", u.play(4), 0);
        // With column 0 empty the enemy goes on to the others: two are empty by each of its turns.
        WallsOfBooks t = Check.city("", "11;11;11;11", "-/a/b", "");
        Check.due("behind an empty column", t.play(4), 0);
        Check.row("behind an empty column", t, 1);
    }
}
