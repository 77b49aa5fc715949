import java.util.NoSuchElementException;
import java.util.Random;

/** Any arguments in any state: only book, column, reader and row throw, and only what is promised. */
public final class NeverThrowsTest {
    private static final int[] EDGES = {Integer.MIN_VALUE, Integer.MIN_VALUE + 1, -1000, -100, -3, -2, -1, 0, 1, 2, 3,
        4, 5, 6, 7, 9, 10, 11, 12, 13, 15, 30, 31, 32, 36, 40, 60, 61, 63, 99, 100, 255, 256, 999, 4095, 4096, 65535,
        Integer.MAX_VALUE - 1, Integer.MAX_VALUE};
    private static final String SIGNS = "0123456789;/-abcdefghijklotwcknd+*<>=()srd;;;--//((";
    private static Random random;

    public static void main(String[] args) {
        for (int run = 0; run < 3000; run++) {
            random = new Random(run);
            WallsOfBooks x = new WallsOfBooks();
            int call = -1;
            try {
                for (int i = 0; i < 512; i++) {
                    call = random.nextInt(41);
                    one(x, call);
                }
            } catch (RuntimeException e) {
                Check.due("run " + run + ", call " + call + " threw " + e, 1, 0);
            }
        }
        Check.due("runs", 3000, 3000);
        Check.finish("NeverThrowsTest");
    }

    private static int any() {
        int dice = random.nextInt(10);
        return dice == 0 ? random.nextInt() : dice < 6 ? random.nextInt(7) : EDGES[random.nextInt(EDGES.length)];
    }

    private static void someText(WallsOfBooks x) {
        String[] whole = {"35;26;41;15;52", "91;19;90", "1;2", "0;9;3", "ca/b/-", "a/-/-/-/-/b", "abc", "-", "t*4",
            "w+(k-(c-(n-(d))))", "99/(t-3)", "la0;d5;s01", "oa05;d30;ra", "-t*-9<4"};
        StringBuilder t = new StringBuilder();
        if (random.nextInt(4) > 0) {
            t.append(whole[random.nextInt(whole.length)]);
        }
        for (int i = random.nextInt(3) == 0 ? random.nextInt(90) : 0; i > 0; i--) {
            t.append(random.nextInt(9) == 0 ? (char) random.nextInt(256) : SIGNS.charAt(random.nextInt(SIGNS.length())));
        }
        Check.text(x, t.length() > 80 ? t.substring(0, 80) : t.toString());
    }

    private static void mayThrow(Check.Call call) {
        try {
            call.ask();
        } catch (NoSuchElementException e) {
            return;
        }
    }

    private static void one(WallsOfBooks x, int call) {
        int a = any();
        int b = any();
        int c = any();
        switch (call) {
            case 0: x.sign(a); break;
            case 1: x.end(a); break;
            case 2: someText(x); x.books(); break;
            case 3: someText(x); x.wall(); break;
            case 4: someText(x); x.readers(); break;
            case 5: someText(x); x.rule(); break;
            case 6: mayThrow(() -> x.book(a, b)); break;
            case 7: mayThrow(() -> x.column(a, b)); break;
            case 8: mayThrow(() -> x.reader(a, b)); break;
            case 9: x.sheet(a, b, c, any()); break;
            case 10: case 11: x.lay(a, b); break;
            case 12: x.lend(a, b, c); break;
            case 13: x.recall(a); break;
            case 14: x.shot(a, b); break;
            case 15: x.days(a); break;
            case 16: someText(x); x.siege(); break;
            case 17: x.undo(); break;
            case 18: x.low(a); break;
            case 19: x.weakest(); break;
            case 20: x.room(a); break;
            case 21: x.home(); break;
            case 22: x.spares(a); break;
            case 23: x.spare(a); break;
            case 24: x.build(a); break;
            case 25: x.tallest(); break;
            case 26: x.calls(a); break;
            case 27: x.stack(a, b); break;
            case 28: x.play(a); break;
            case 29: someText(x); x.law(); break;
            case 30: x.seen(a, b); break;
            case 31: x.forget(); break;
            case 32: x.out(a); break;
            case 33: x.look(); break;
            case 34: x.rests(a, b); break;
            case 35: x.years(a, b); break;
            case 36: x.keep(a); break;
            case 37: x.again(a); break;
            case 38: x.count(a); break;
            case 39: mayThrow(() -> x.row(a)); break;
            default: new WallsOfBooks();
        }
    }
}
