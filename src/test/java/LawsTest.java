/** Promises 30 to 36: other laws, what was seen, fines at rest, sieges by a seed. */
public final class LawsTest {
    public static void main(String[] args) {
        promise30();
        promise31and32();
        promise33();
        promise34();
        promise35();
        promise36();
        Check.finish("LawsTest");
    }

    private static void promise30() {
        WallsOfBooks x = Check.small();
        // By t*4: c 16, a 12, b 8.
        Check.due("t", Check.law(x, "t"), 6);
        Check.row("t", x, 7, 9 - 36);
        Check.due("as the rule", Check.law(x, ""), 7);
        Check.row("as the rule", x, 7, 0);
        Check.due("999", Check.law(x, "9999/9"), -10003);
        Check.due("x", Check.law(x, "x"), -10000);
        Check.due("t+", Check.law(x, "t+"), -10002);
        Check.due("the text is read", x.count(12), 0);
        Check.row("the row stays", x, 7, 0);
        String forty = "t+t+t+t+t+t+t+t+t+t+t+t+t+t+t+t+t+t+t-10";
        Check.due("41", Check.law(x, forty + "1"), -10040);
        Check.due("the rule stays", x.book(0, 6), 12);
        Check.rule(x, "0");
        Check.due("more than the rule", Check.law(x, "500*2"), 7);
        Check.row("more than the rule", x, 6, 3 * 999);
        Check.due("an empty one is t*4, not the rule", Check.law(x, ""), 7);
        Check.row("t*4", x, 6, 36);
        Check.due("the rule is 0 yet", x.book(0, 6), 0);
    }

    private static void promise31and32() {
        WallsOfBooks x = Check.small();
        Check.due("none", x.forget(), 0);
        Check.due("column 3", x.seen(3, 1), -1);
        Check.due("column -1", x.seen(-1, 1), -1);
        Check.due("-1", x.seen(0, -1), -1);
        Check.due("100", x.seen(0, 100), -1);
        Check.due("0", x.seen(2, 0), 1);
        Check.due("99", x.seen(0, 99), 2);
        Check.due("again", x.seen(0, 7), 2);
        Check.due("bits", x.count(9), 5);
        x.out(0);
        Check.row("as it was last", x, 0, 0);
        Check.due("forget", x.forget(), 2);
        Check.due("bits none", x.count(9), 0);
        Check.due("out", x.out(0), -2);
    }

    private static void promise33() {
        WallsOfBooks x = Check.city("", "30;20;10;40;50", "cab/de/-", "");
        Check.due("none such", x.out(3), -1);
        Check.due("none such -1", x.out(-1), -1);
        Check.due("not seen", x.out(0), -2);
        // Column 0: a 3, b 2, c 1.
        x.seen(0, 3);
        Check.due("3: without a, or b and c", x.out(0), 2);
        Check.row("3", x, 1, 0);
        x.seen(0, 4);
        Check.due("4: without b", x.out(0), 1);
        Check.row("4", x, 2, 2);
        x.seen(0, 1);
        Check.due("1: without a and b", x.out(0), 1);
        Check.row("1", x, 3, 3);
        x.seen(0, 6);
        Check.due("6: none out", x.out(0), 1);
        Check.row("6", x, 0, 0);
        x.seen(0, 7);
        Check.due("7", x.out(0), 0);
        Check.row("7", x, -1, 0);
        x.seen(2, 0);
        Check.due("of no books", x.out(2), 1);
        Check.row("of no books", x, 0, 0);
        WallsOfBooks y = Check.city("", "20;20;20;90", "dcba", "");
        y.seen(0, 2);
        Check.due("d and two of three", y.out(0), 3);
        Check.row("d is in all", y, 8 + 3, 8);
        y.seen(0, 11);
        Check.due("two of three", y.out(0), 3);
        Check.row("two of three", y, 3, 0);
    }

    private static void promise34() {
        WallsOfBooks x = Check.city("", "30;20;10;40;50", "abc/de/-", "");
        // abc: 0 1 2 3 4 5 6; de: 0 4 5 9; none: 0.
        Check.due("look", x.look(), 0);
        Check.row("look", x, 7);
        x.seen(0, 1);
        Check.due("look again", x.look(), 1);
        Check.row("look again", x, 4);
        x.seen(1, 1);
        Check.due("the empty one", x.look(), 2);
        Check.row("the empty one", x, 1);
        x.seen(2, 1);
        Check.due("all were seen", x.look(), -2);
        x.forget();
        Check.wall(x, "-/a/b/c");
        Check.due("of equal ones the first", x.look(), 1);
        Check.row("two", x, 2);
    }

    private static void promise35() {
        WallsOfBooks x = new WallsOfBooks();
        Check.due("10", x.rests(10, 0), -1);
        Check.due("-1", x.rests(-1, 0), -1);
        Check.due("f 10", x.rests(0, 10), -1);
        Check.due("f -1", x.rests(0, -1), -1);
        Check.due("nothing to win", x.rests(0, 0), 100);
        Check.row("0 0", x, 0, 0);
        Check.due("a fine", x.rests(0, 1), 1);
        Check.row("a fine", x, 0, 0);
        Check.due("no fine", x.rests(9, 0), 1);
        Check.row("9 9", x, 9, 9);
        // v 1: half of it is 0; with a fine of 1 a day none has more by another number:
        // (0,0): 0, by 1 day 1 - 1 = 0; (0,1): 0 and 0; (1,0) likewise; (1,1): -1.
        Check.due("1, 1", x.rests(1, 1), 3);
        Check.row("1, 1", x, 0, 0);
        // v 2, f 1: at (0,0) each has 1; by 1 day 2 - 1 = 1, so it rests; (1,1): 0, by 0: 0, by 2: 0.
        Check.due("2, 1", x.rests(2, 1) > 0, true);
        Check.row("2, 1", x, 0, 0);
        // v 9, f 1: from each pair one of the two would change.
        Check.due("9, 1", x.rests(9, 1), 0);
        Check.row("9, 1", x);
    }

    private static int r;

    private static int draw(int n) {
        r = r * 1103515245 + 12345;
        return (int) (Integer.toUnsignedLong(r) / 65536 % n);
    }

    private static void promise36() {
        Check.due("no books, asked first", new WallsOfBooks().years(1, 61), -2);
        Check.due("no books", new WallsOfBooks().years(1, 1), -2);
        WallsOfBooks x = Check.small();
        Check.due("0", x.years(1, 0), -1);
        Check.due("61", x.years(1, 61), -1);
        x.lend(2, 0, 3);
        int[] seeds = {0, 1, -1, 77, Integer.MIN_VALUE, 123456789};
        for (int seed : seeds) {
            for (int n : new int[] {1, 2, 7, 60}) {
                drawnSiege(seed, n);
            }
        }
        Check.due("the day stays", x.count(3), 0);
        Check.due("lent yet", x.count(6), 4);
        Check.due("to be undone", x.count(10), 1);
    }

    /** The same by the calls shot, lay and days themselves. */
    private static void drawnSiege(int seed, int n) {
        WallsOfBooks x = Check.small();
        x.lend(2, 0, 3);
        WallsOfBooks y = Check.small();
        y.lend(2, 0, 3);
        r = seed;
        int laid = 0;
        int lost = 0;
        int least = 99;
        for (int i = 0; i < n; i++) {
            lost += y.shot(draw(3), 1) >= 0 ? 1 : 0;
            int b = draw(5);
            laid += y.lay(b, draw(3)) >= 0 ? 1 : 0;
            y.days(1);
            least = Math.min(least, y.count(8));
        }
        Check.due("years " + seed + " " + n, x.years(seed, n), laid);
        Check.row("years " + seed + " " + n, x, lost, least);
        Check.due("nothing changed", x.count(5), 3);
    }
}
