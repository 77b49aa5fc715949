/** Promises 12 to 18, 37 and 38: what is done in a siege, undone, kept. */
public final class SiegeTest {
    public static void main(String[] args) {
        promise12();
        promise13();
        promise14();
        promise15();
        promise16();
        promise17Grammar();
        promise17Acts();
        promise18();
        promise18Forgotten();
        promise37and38();
        Check.finish("SiegeTest");
    }

    private static void promise12() {
        WallsOfBooks x = Check.small();
        Check.due("lay", x.lay(3, 0), 8);
        Check.due("on top", x.column(0, 4), 3);
        Check.due("not on the heap", x.lay(3, 1), -2);
        Check.due("not on the heap, another", x.lay(0, 0), -2);
        Check.due("no such book", x.lay(5, 0), -1);
        Check.due("no such book -1", x.lay(-1, 0), -1);
        Check.due("no such column", x.lay(3, 3), -1);
        Check.due("no such column -1", x.lay(4, -1), -1);
        Check.due("laid", x.lay(4, 0), 13);
        x.lend(1, 0, 1);
        Check.due("lent", x.lay(1, 0), -2);
        x.recall(1);
        Check.due("a fifth", x.lay(1, 0), -3);
        x.shot(0, 1);
        Check.due("lost", x.lay(4, 0), -2);
        // c bears 16, a and d weigh 10 above it: b of 6 just goes; d bears 4 alone.
        Check.due("d would not bear it", x.lay(1, 0), -4);
        Check.due("on the heap yet", x.book(1, 2), 0);
        Check.due("as it was", x.column(0, 1), 3);
        Check.rule(x, "t*6");
        Check.due("by another rule", x.lay(1, 0), 10);
        // A rule by how many there are: two may lie, a third makes n 3.
        WallsOfBooks y = Check.city("(n<3)*99", "11;11;11", "ab", "");
        Check.due("a third", y.lay(2, 0), -4);
        Check.due("holds yet", y.column(0, 3), 1);
    }

    private static void promise13() {
        WallsOfBooks x = Check.small();
        x.days(2);
        Check.due("from under", x.lend(2, 0, 30), 32);
        Check.due("it sank", x.book(0, 4), 0);
        Check.due("height", x.column(0, 0), 3);
        Check.due("from the heap", x.lend(3, 0, 1), 3);
        Check.due("the heap", x.count(4), 16);
        Check.due("lent already", x.lend(3, 1, 1), -2);
        Check.due("none such book", x.lend(5, 0, 1), -1);
        Check.due("none such reader", x.lend(4, 2, 1), -1);
        Check.due("none such reader -1", x.lend(4, -1, 1), -1);
        Check.due("0 days", x.lend(4, 0, 0), -1);
        Check.due("31 days", x.lend(4, 0, 31), -1);
        Check.due("lent, and 31 days", x.lend(3, 0, 31), -1);
        Check.due("a third", x.lend(4, 0, 1), 3);
        Check.due("he has 3", x.lend(0, 0, 1), -3);
        Check.due("lent, and he has 3", x.lend(4, 0, 1), -2);
        Check.due("another has not", x.lend(0, 1, 1), 3);
        x.shot(1, 1);
        Check.due("lost", x.lend(1, 1, 1), -2);
        x.days(3);
        Check.due("back, so one more", x.lend(3, 0, 2), 7);
        // It may be lent though the column then does not hold.
        WallsOfBooks y = Check.city("(k=0)*(t*4)+(k>0)*9", "91;19;19", "abc", "1");
        Check.due("from under all", y.lend(0, 0, 1), 1);
        Check.due("holds no more", y.column(0, 3), 0);
    }

    private static void promise14() {
        WallsOfBooks x = Check.small();
        Check.due("in a column", x.recall(0), -2);
        Check.due("on the heap", x.recall(3), -2);
        Check.due("none such", x.recall(5), -1);
        Check.due("none such -1", x.recall(-1), -1);
        x.lend(0, 1, 3);
        Check.due("recall", x.recall(0), 1);
        Check.due("on the heap now", x.book(0, 2), 0);
        Check.due("no fines", x.reader(1, 1), 0);
        x.days(9);
        Check.due("none come later", x.row(0), 0);
        x.shot(0, 1);
        Check.due("lost", x.recall(2), -2);
    }

    private static void promise15() {
        WallsOfBooks x = Check.city("", "91;91;91;91;91", "abcd/e/-", "");
        Check.due("no such column", x.shot(3, 1), -1);
        Check.due("column -1", x.shot(-1, 1), -1);
        Check.due("0", x.shot(0, 0), -1);
        Check.due("5", x.shot(0, 5), -1);
        Check.due("none there, 0", x.shot(2, 0), -1);
        Check.due("none there", x.shot(2, 1), -2);
        Check.due("one", x.shot(0, 1), 27);
        Check.row("one", x, 8);
        Check.due("two", x.shot(0, 2), 9);
        Check.row("two", x, 6);
        Check.due("more than there are", x.shot(1, 4), 0);
        Check.row("more", x, 16);
        Check.due("lost", x.count(7), 8 + 6 + 16);
        x.days(99);
        Check.due("lost for good", x.count(7), 30);
    }

    private static void promise16() {
        WallsOfBooks x = Check.small();
        Check.due("-1", x.days(-1), -1);
        Check.due("100", x.days(100), -1);
        Check.due("0", x.days(0), 0);
        Check.row("0", x, 0, 0);
        x.lend(0, 0, 1);
        x.lend(1, 0, 3);
        x.lend(3, 1, 1);
        Check.due("2 days", x.days(2), 2);
        Check.row("due, but late", x, 0, 0);
        Check.due("the third", x.days(1), 3);
        Check.row("a", x, 1, 2);
        Check.due("on the heap", x.book(0, 2), 0);
        Check.due("two more", x.days(2), 5);
        Check.row("d on day 4, b on day 5", x, 2 + 8, 2 + 3);
        Check.due("fines 0", x.reader(0, 1), 4);
        Check.due("fines 1", x.reader(1, 1), 3);
        Check.due("99", x.days(99), 104);
        Check.row("none", x, 0, 0);
        Check.readers(x, "0");
        x.lend(4, 2, 1);
        x.days(1);
        Check.row("never late", x, 16, 0);
    }

    private static void promise17Grammar() {
        WallsOfBooks x = Check.small();
        String[] bad = {"x", "l", "la", "lm0", "l0", "la00", "lax", "o", "oa", "oa0", "oa0x", "oa0123", "om01", "r",
            "rm", "ra0", "ra;", "s", "s0", "sa", "s011", "d", "dx", "d123", "d1;", ";", "d1;;d1", "d1,d1", "D1", "d1;x"};
        int[] at = {0, 1, 2, 1, 1, 3, 2, 1, 2, 3, 3, 5, 1, 1, 1, 2, 3, 1, 2, 1, 3, 1, 1, 3, 3, 0, 3, 2, 0, 3};
        for (int i = 0; i < bad.length; i++) {
            Check.due("siege " + bad[i], Check.siege(x, bad[i]), -1 - at[i]);
            Check.due("the text is read", x.count(12), 0);
        }
        Check.due("nothing is done, if a later act can't stand", Check.siege(x, "ld2;d5;x"), -8);
        Check.due("the day", x.count(3), 0);
        String sixty = "d1;d1;d1;d1;d1;d1;d1;d1;d1;d1;d1;d1;d1;d1;d1;d1;d1;d1;d1;d01";
        Check.due("signs", sixty.length(), 60);
        Check.due("61", Check.siege(x, sixty + ";"), -61);
        Check.due("61, a bad one behind", Check.siege(x, sixty + "x"), -61);
        Check.due("61, a bad one ahead", Check.siege(x, "d1x" + sixty), -3);
        Check.due("60", Check.siege(x, sixty), 20);
        Check.due("20 days", x.count(3), 20);
    }

    private static void promise17Acts() {
        WallsOfBooks x = Check.small();
        Check.due("nothing", Check.siege(x, ""), 0);
        Check.row("nothing", x, 0, 3);
        Check.due("none to undo", x.count(10), 0);
        Check.due("none can be", Check.siege(x, "la0;d5"), 0);
        Check.row("none can be", x, 1, 3);
        Check.due("none to undo yet", x.count(10), 0);
        Check.due("all", Check.siege(x, "ld2;le0;oc12;s01;d05;rc;la2"), 5);
        Check.row("c was back", x, 1, 3);
        Check.due("in columns", x.count(5), 1 + 2 + 8);
        Check.due("lost", x.count(7), 16);
        Check.due("on the heap", x.count(4), 4);
        Check.due("fines", x.reader(1, 1), 3);
        Check.due("one to undo", x.count(10), 1);
        Check.due("undo", x.undo(), 0);
        Check.due("as ahead", x.count(5), 7);
        Check.due("the day as ahead", x.count(3), 0);
        Check.due("fines as ahead", x.reader(1, 1), 0);
        Check.due("a recall", Check.siege(x, "oa030;ra"), 2);
        Check.row("a recall", x, 0, 2);
        Check.due("31 days", Check.siege(x, "oa031"), 0);
        Check.due("a shot of 0", Check.siege(x, "s00"), 0);
        Check.due("a shot of 9", Check.siege(x, "s09"), 0);
        Check.due("column 9", Check.siege(x, "la9"), 0);
        Check.due("no such book", Check.siege(x, "rl"), 0);
        Check.due("no such reader", Check.siege(x, "oa91"), 0);
        int ahead = x.count(10);
        Check.due("d0 is done", Check.siege(x, "d0"), 1);
        Check.due("and can be undone", x.count(10), ahead + 1);
    }

    private static void promise18() {
        WallsOfBooks x = Check.small();
        Check.due("none", x.undo(), -1);
        for (int i = 1; i <= 14; i++) {
            x.days(1);
            Check.due("to be undone " + i, x.count(10), Math.min(i, 12));
        }
        x.days(0);
        x.lay(0, 0);
        x.lend(0, 0, 0);
        x.recall(0);
        x.shot(2, 1);
        Check.due("what was not done is not kept", x.count(10), 12);
        for (int left = 11; left >= 0; left--) {
            Check.due("undo", x.undo(), left);
            Check.due("day", x.count(3), 2 + left);
        }
        Check.due("no more", x.undo(), -1);
        Check.due("day 2", x.count(3), 2);
        x.lay(4, 2);
        x.lend(2, 1, 1);
        x.days(4);
        x.shot(0, 1);
        x.lend(1, 0, 9);
        x.recall(1);
        x.undo();
        Check.due("lent again", x.book(1, 5), 15);
        x.undo();
        Check.due("in its column again", x.column(1, 4), 1);
        x.undo();
        Check.due("not lost", x.column(0, 4), 0);
        Check.due("fines", x.reader(1, 1), 3);
        x.undo();
        Check.due("no fines", x.reader(1, 1), 0);
        Check.due("lent", x.book(2, 5), 3);
        x.undo();
        Check.due("under again", x.book(2, 4), 0);
        Check.due("and the other above", x.book(0, 4), 1);
        Check.due("the last", x.undo(), 0);
        Check.due("on the heap", x.book(4, 2), 0);
    }

    private static void promise18Forgotten() {
        WallsOfBooks x = Check.small();
        x.days(1);
        Check.books(x, "");
        Check.readers(x, "");
        Check.books(x, "x");
        Check.readers(x, "x");
        Check.wall(x, "x");
        Check.rule(x, "99");
        x.sheet(2, 5, 3, 0);
        x.again(0);
        Check.due("kept through these", x.count(10), 1);
        Check.books(x, "11");
        Check.due("books came", x.count(10), 0);
        x.days(1);
        Check.readers(x, "1");
        Check.due("readers came", x.count(10), 0);
        x.days(1);
        x.keep(1);
        x.again(1);
        Check.due("again", x.count(10), 0);
        x.days(1);
        Check.wall(x, "-");
        Check.due("the wall anew", x.count(10), 0);
        Check.due("none", x.undo(), -1);
    }

    private static void promise37and38() {
        WallsOfBooks x = Check.small();
        Check.due("keep -1", x.keep(-1), false);
        Check.due("keep 2", x.keep(2), false);
        Check.due("again 0", x.again(0), false);
        Check.due("keep 0", x.keep(0), true);
        Check.due("again 1", x.again(1), false);
        Check.due("again -1", x.again(-1), false);
        Check.due("again 2", x.again(2), false);
        x.lend(2, 0, 1);
        x.shot(1, 1);
        x.days(2);
        Check.due("keep 1", x.keep(1), true);
        x.days(1);
        Check.due("fines", x.reader(0, 1), 2);
        Check.due("again 0 now", x.again(0), true);
        Check.due("day", x.count(3), 0);
        Check.due("fines none", x.reader(0, 1), 0);
        Check.due("under", x.book(2, 4), 0);
        Check.due("not lost", x.count(7), 0);
        Check.due("again 1 now", x.again(1), true);
        Check.due("day 2", x.count(3), 2);
        Check.due("due", x.book(2, 5), 1);
        Check.due("lost", x.count(7), 2);
        Check.due("again, twice", x.again(0), true);
        Check.due("kept over", x.keep(1), true);
        x.days(3);
        Check.due("the later one", x.again(1), true);
        Check.due("day 0", x.count(3), 0);
        x.sheet(2, 5, 9, 0);
        Check.rule(x, "0");
        Check.due("a rule and a sheet are no hindrance", x.again(0), true);
        Check.due("nor are they kept", x.column(0, 0), 18);
        Check.books(x, "");
        Check.readers(x, "");
        Check.wall(x, "x");
        Check.due("nor what did not come", x.again(0), true);
        Check.rule(x, "");
        Check.books(x, "11");
        Check.due("books came", x.again(0), false);
        Check.due("books came, 1", x.again(1), false);
        x.keep(0);
        Check.readers(x, "1");
        Check.due("readers came", x.again(0), false);
        x.keep(0);
        Check.wall(x, "-");
        Check.due("the wall anew", x.again(0), false);
    }
}
