import java.util.Arrays;
import java.util.NoSuchElementException;

/** A city defended by walls of returned books; ../shared/DOC.md says what each call promises. */
public final class WallsOfBooks {
    public static final int NONE = -1;

    private static final int MOST_SIGNS = 80;
    private static final int MOST_BOOKS = 12;
    private static final int MOST_COLUMNS = 6;
    private static final int MOST_READERS = 4;
    private static final int PLACES = 4;
    private static final int LOANS = 3;
    private static final int MOST_LAID = 6;
    private static final int MOST_PLAYED = 4;
    private static final int MOST_UNDONE = 12;
    private static final int MOST_KEPT = 2;
    private static final int MOST_DAYS_TOO_LONG = 9;

    private static final int BOOKS_SIGNS = 36;
    private static final int READERS_SIGNS = 7;
    private static final int RULE_SIGNS = 40;
    private static final int SIEGE_SIGNS = 60;

    private static final int HIGHEST = 99;
    private static final int MOST_BORNE = 999;
    private static final int WOULD_NOT_HOLD = -200;
    private static final int LAW_FAULT = -10000;

    private static final int ON_HEAP = 0;
    private static final int IN_COLUMN = 1;
    private static final int LENT = 2;
    private static final int LOST = 3;

    private final char[] signs = new char[MOST_SIGNS];
    private int length;
    private final int[] told = new int[2 * MOST_LAID];
    private int toldMany;
    private final City now = new City();
    private final City trial = new City();
    private Rule inForce = new Rule();
    private Rule another = new Rule();
    private final Acts acts = new Acts();
    private final History history = new History();
    private final int[][] kept = new int[MOST_KEPT][City.PAGE];
    private final boolean[] isKept = new boolean[MOST_KEPT];
    private final int[] seenHeight = {NONE, NONE, NONE, NONE, NONE, NONE};
    private final Mason mason = new Mason();
    private final Duel duel = new Duel();
    private final Orders orders = new Orders();

    public WallsOfBooks() {
    }

    // ---- books, the wall, readers

    public int sign(int v) {
        if (length + 4 > MOST_SIGNS) {
            return NONE;
        }
        for (int shift = 24; shift >= 0; shift -= 8) {
            signs[length] = (char) ((v >>> shift) & 255);
            length++;
        }
        return length;
    }

    public boolean end(int n) {
        if (n < 0 || n > length) {
            return false;
        }
        length = n;
        return true;
    }

    public int books() {
        int many = takeText();
        if (many == 0) {
            return 0;
        }
        int bad = badSignOfBooks(many);
        if (bad != NONE) {
            return -1 - bad;
        }
        for (int i = 0; i + 1 < many; i += 3) {
            now.addBook(signs[i] - '0', signs[i + 1] - '0');
        }
        forgetPast();
        return (many + 1) / 3;
    }

    public int wall() {
        int many = takeText();
        trial.copyFrom(now);
        trial.pullDown();
        int bad = badSignOfWall(many);
        if (bad != NONE) {
            return -1 - bad;
        }
        if (columnsThatHold(trial, inForce) != (1 << trial.columns) - 1) {
            return WOULD_NOT_HOLD;
        }
        now.copyFrom(trial);
        forgetPast();
        Arrays.fill(seenHeight, NONE);
        return now.columns;
    }

    public int readers() {
        int many = takeText();
        if (many == 0) {
            return 0;
        }
        int bad = badSignOfReaders(many);
        if (bad != NONE) {
            return -1 - bad;
        }
        for (int i = 0; i < many; i += 2) {
            now.addReader(signs[i] - '0');
        }
        forgetPast();
        return (many + 1) / 2;
    }

    public int rule() {
        int bad = readAnother();
        if (bad != NONE) {
            return -1 - bad;
        }
        Rule old = inForce;
        inForce = another;
        another = old;
        return 0;
    }

    public int book(int book, int what) throws NoSuchElementException {
        if (!now.isBook(book)) {
            throw new NoSuchElementException("no such book");
        }
        switch (what) {
            case 0: return now.thick[book];
            case 1: return now.weight[book];
            case 2: return now.where[book];
            case 3: return now.holder[book];
            case 4: return now.placeOf(book);
            case 5: return now.due[book];
            case 6: return now.where[book] == IN_COLUMN
                    ? now.bearsAt(now.holder[book], now.placeOf(book), inForce) : NONE;
            default: throw new NoSuchElementException("nothing such of a book");
        }
    }

    public int column(int column, int what) throws NoSuchElementException {
        if (!now.isColumn(column)) {
            throw new NoSuchElementException("no such column");
        }
        switch (what) {
            case 0: return now.heightOf(column);
            case 1: return now.many[column];
            case 2: return now.weightOf(column);
            case 3: return now.holdsUp(column, inForce) ? 1 : 0;
            case 4: return now.topOf(column);
            default: throw new NoSuchElementException("nothing such of a column");
        }
    }

    public int reader(int reader, int what) throws NoSuchElementException {
        if (!now.isReader(reader)) {
            throw new NoSuchElementException("no such reader");
        }
        switch (what) {
            case 0: return now.late[reader];
            case 1: return now.fines[reader];
            case 2: return now.loansOf(reader);
            default: throw new NoSuchElementException("nothing such of a reader");
        }
    }

    public int sheet(int kind, int n, int f, int step) {
        if (kind < 0 || kind > 3 || n > MOST_BOOKS) {
            return NONE;
        }
        if (kind != 3 && n < 0) {
            return -2;
        }
        int entries = kind == 3 ? 0 : n;
        int sum = 0;
        for (int b = 0; b < now.books; b++) {
            now.thick[b] = b < entries ? between(1, entryOf(kind, f + b * step), 9) : 1;
            sum += now.thick[b];
        }
        return kind == 3 ? -3 : sum;
    }

    // ---- the siege

    public int lay(int book, int column) {
        history.mark(now);
        return keepIfDone(now.layOn(book, column, inForce));
    }

    public int lend(int book, int reader, int n) {
        history.mark(now);
        return keepIfDone(now.lendTo(book, reader, n));
    }

    public int recall(int book) {
        history.mark(now);
        return keepIfDone(now.callBack(book));
    }

    public int shot(int column, int n) {
        history.mark(now);
        int answer = keepIfDone(now.shoot(column, n));
        if (answer >= 0) {
            tell(now.broken);
        }
        return answer;
    }

    public int days(int n) {
        history.mark(now);
        int answer = now.passDays(n);
        if (answer < 0) {
            return answer;
        }
        if (n > 0) {
            history.keepMark();
        }
        tellTwo(now.cameBack, now.paid);
        return answer;
    }

    public int siege() {
        int many = takeText();
        int bad = acts.read(signs, many);
        if (bad != NONE) {
            return -1 - bad;
        }
        history.mark(now);
        int done = 0;
        for (int i = 0; i < acts.size && perform(i) >= 0; i++) {
            done++;
        }
        if (done > 0) {
            history.keepMark();
        }
        tellTwo(done < acts.size ? 1 : 0, Integer.bitCount(now.bitsWhere(IN_COLUMN)));
        return done;
    }

    public int undo() {
        if (history.left == 0) {
            return NONE;
        }
        history.restore(now);
        return history.left;
    }

    // ---- how it stands

    public int low(int h) {
        if (!isHeight(h)) {
            return NONE;
        }
        int bits = 0;
        int lack = 0;
        for (int c = 0; c < now.columns; c++) {
            int height = now.heightOf(c);
            if (height < h) {
                bits |= 1 << c;
                lack += h - height;
            }
        }
        tellTwo(lack, now.leastHeight());
        return bits;
    }

    public int weakest() {
        int found = NONE;
        int least = 0;
        for (int b = 0; b < now.books; b++) {
            if (now.where[b] != IN_COLUMN) {
                continue;
            }
            int then = now.leastHeightWithout(b);
            if (found == NONE || then < least) {
                found = b;
                least = then;
            }
        }
        if (found == NONE) {
            return -2;
        }
        tellTwo(least, now.leastHeight());
        return found;
    }

    public int room(int column) {
        if (!now.isColumn(column)) {
            return NONE;
        }
        if (!now.holdsUp(column, inForce)) {
            return -2;
        }
        int more = MOST_BORNE;
        int tight = NONE;
        int above = 0;
        for (int k = now.many[column] - 1; k >= 0; k--) {
            int b = now.bookAt(column, k);
            int spared = now.bearsAt(column, k, inForce) - above;
            if (tight == NONE || spared < more) {
                more = spared;
                tight = b;
            }
            above += now.weight[b];
        }
        tell(tight);
        return more;
    }

    public int home() {
        int last = NONE;
        int most = 0;
        for (int b = 0; b < now.books; b++) {
            if (now.where[b] != LENT) {
                continue;
            }
            int yet = now.backOn(b) - now.day;
            if (last == NONE || yet >= most) {
                last = b;
                most = yet;
            }
        }
        tell(last);
        return most;
    }

    // ---- lending

    public int spares(int h) {
        if (!isHeight(h)) {
            return NONE;
        }
        trial.copyFrom(now);
        int all = 0;
        for (int c = 0; c < now.columns; c++) {
            if (now.heightOf(c) >= h) {
                all |= mostSpared(c, h);
            }
        }
        tell(all);
        return Integer.bitCount(all);
    }

    public int spare(int column) {
        if (!now.isColumn(column)) {
            return NONE;
        }
        trial.copyFrom(now);
        int found = NONE;
        int highest = 0;
        for (int k = 0; k < now.many[column]; k++) {
            trial.copyColumnWithout(now, column, 1 << k);
            int height = trial.heightOf(column);
            if (trial.holdsUp(column, inForce) && (found == NONE || height > highest)) {
                found = now.bookAt(column, k);
                highest = height;
            }
        }
        if (found == NONE) {
            return -2;
        }
        tell(highest);
        return found;
    }

    // ---- laying

    public int build(int h) {
        if (!isHeight(h)) {
            return NONE;
        }
        trial.copyFrom(now);
        return tellSteps(mason.fewest(trial, inForce, ON_HEAP, h));
    }

    public int tallest() {
        if (Integer.bitCount(now.bitsWhere(ON_HEAP)) > MOST_LAID) {
            return -3;
        }
        int reached = now.leastHeight();
        int takes = 0;
        for (int h = reached + 1; h <= HIGHEST; h++) {
            // What reached a lower h by the fewest may have come as high as this.
            if (h <= reached) {
                continue;
            }
            trial.copyFrom(now);
            int many = mason.fewest(trial, inForce, ON_HEAP, h);
            if (many < 0) {
                break;
            }
            takes = many;
            reached = trial.leastHeight();
        }
        tell(takes);
        return reached;
    }

    public int calls(int h) {
        if (!isHeight(h)) {
            return NONE;
        }
        trial.copyFrom(now);
        return tellSteps(mason.fewest(trial, inForce, LENT, h));
    }

    public int stack(int those, int column) {
        if (!now.isColumn(column) || (those & -(1 << now.books)) != 0) {
            return NONE;
        }
        int many = Integer.bitCount(those);
        if (many < 1 || many > PLACES) {
            return -2;
        }
        trial.copyFrom(now);
        int holding = orders.countThose(trial, inForce, those, column);
        tellRow(orders.least, holding == 0 ? 0 : many);
        return holding;
    }

    // ---- the enemy, by turns

    public int play(int n) {
        if (n < 1 || n > 4) {
            return NONE;
        }
        if (Integer.bitCount(now.bitsWhere(ON_HEAP)) > MOST_PLAYED) {
            return -3;
        }
        trial.copyFrom(now);
        int least = duel.outcome(trial, inForce, n);
        tell(duel.first);
        return least;
    }

    // ---- laws, gaps

    public int law() {
        int bad = readAnother();
        if (bad != NONE) {
            return LAW_FAULT - bad;
        }
        int more = 0;
        for (int c = 0; c < now.columns; c++) {
            for (int k = 0; k < now.many[c]; k++) {
                more += now.bearsAt(c, k, another) - now.bearsAt(c, k, inForce);
            }
        }
        tellTwo(columnsThatHold(now, inForce), more);
        return columnsThatHold(now, another);
    }

    public int seen(int column, int v) {
        if (!now.isColumn(column) || !isHeight(v)) {
            return NONE;
        }
        seenHeight[column] = v;
        return Integer.bitCount(seenBits());
    }

    public int forget() {
        int many = Integer.bitCount(seenBits());
        Arrays.fill(seenHeight, NONE);
        return many;
    }

    public int out(int column) {
        if (!now.isColumn(column)) {
            return NONE;
        }
        if (seenHeight[column] == NONE) {
            return -2;
        }
        int many = 0;
        int least = NONE;
        int common = 0;
        for (int choice = 0; choice < 1 << now.many[column]; choice++) {
            if (now.heightWithout(column, choice) != seenHeight[column]) {
                continue;
            }
            int bits = now.bitsChosen(column, choice);
            least = many == 0 ? bits : Math.min(least, bits);
            common = many == 0 ? bits : common & bits;
            many++;
        }
        tellTwo(least, common);
        return many;
    }

    public int look() {
        int found = NONE;
        int most = 0;
        for (int c = 0; c < now.columns; c++) {
            int shows = heightsShown(c);
            if (seenHeight[c] == NONE && shows > most) {
                found = c;
                most = shows;
            }
        }
        if (found == NONE) {
            return -2;
        }
        tell(most);
        return found;
    }

    // ---- fines, sieges

    public int rests(int v, int f) {
        if (v < 0 || v > 9 || f < 0 || f > 9) {
            return NONE;
        }
        int many = 0;
        toldMany = 0;
        for (int x = 0; x <= MOST_DAYS_TOO_LONG; x++) {
            for (int y = 0; y <= MOST_DAYS_TOO_LONG; y++) {
                if (!isBestAgainst(x, y, v, f) || !isBestAgainst(y, x, v, f)) {
                    continue;
                }
                if (many == 0) {
                    tellTwo(x, y);
                }
                many++;
            }
        }
        return many;
    }

    public int years(int seed, int n) {
        if (now.books == 0) {
            return -2;
        }
        if (n < 1 || n > 60) {
            return NONE;
        }
        trial.copyFrom(now);
        int r = seed;
        int laid = 0;
        int lost = 0;
        int least = HIGHEST;
        for (int i = 0; i < n; i++) {
            r = nextDraw(r);
            if (trial.shoot(drawn(r, trial.columns), 1) >= 0) {
                lost++;
            }
            r = nextDraw(r);
            int b = drawn(r, trial.books);
            r = nextDraw(r);
            if (trial.layOn(b, drawn(r, trial.columns), inForce) >= 0) {
                laid++;
            }
            trial.passDay();
            least = Math.min(least, trial.leastHeight());
        }
        tellTwo(lost, least);
        return laid;
    }

    // ---- kept

    public boolean keep(int i) {
        if (i < 0 || i >= MOST_KEPT) {
            return false;
        }
        now.writePage(kept[i]);
        isKept[i] = true;
        return true;
    }

    public boolean again(int i) {
        if (i < 0 || i >= MOST_KEPT || !isKept[i]) {
            return false;
        }
        now.readPage(kept[i]);
        history.clear();
        return true;
    }

    public int count(int what) {
        switch (what) {
            case 0: return now.books;
            case 1: return now.columns;
            case 2: return now.readers;
            case 3: return now.day;
            case 4: return now.bitsWhere(ON_HEAP);
            case 5: return now.bitsWhere(IN_COLUMN);
            case 6: return now.bitsWhere(LENT);
            case 7: return now.bitsWhere(LOST);
            case 8: return now.leastHeight();
            case 9: return seenBits();
            case 10: return history.left;
            case 11: return toldMany;
            case 12: return length;
            default: return NONE;
        }
    }

    public int row(int i) throws NoSuchElementException {
        if (i < 0 || i >= toldMany) {
            throw new NoSuchElementException("no such number of the row");
        }
        return told[i];
    }

    // ---- helpers of the calls above

    private static boolean isDigit(char sign) {
        return sign >= '0' && sign <= '9';
    }

    private static boolean isHeight(int h) {
        return h >= 0 && h <= HIGHEST;
    }

    private static int between(int low, int value, int high) {
        return Math.max(low, Math.min(value, high));
    }

    private static int entryOf(int kind, int value) {
        return kind == 0 ? (byte) value : kind == 1 ? (short) value : value;
    }

    private static int columnsThatHold(City city, Rule rule) {
        int bits = 0;
        for (int c = 0; c < city.columns; c++) {
            if (city.holdsUp(c, rule)) {
                bits |= 1 << c;
            }
        }
        return bits;
    }

    private int takeText() {
        int many = length;
        length = 0;
        return many;
    }

    private void tell(int a) {
        told[0] = a;
        toldMany = 1;
    }

    private void tellTwo(int a, int b) {
        told[0] = a;
        told[1] = b;
        toldMany = 2;
    }

    private void tellRow(int[] numbers, int many) {
        System.arraycopy(numbers, 0, told, 0, many);
        toldMany = many;
    }

    private void forgetPast() {
        history.clear();
        isKept[0] = false;
        isKept[1] = false;
    }

    /** An act that answers below 0 was not done, so nothing is kept of it. */
    private int keepIfDone(int answer) {
        if (answer >= 0) {
            history.keepMark();
        }
        return answer;
    }

    private int badSignOfBooks(int many) {
        for (int i = 0; i < many; i++) {
            if (i == BOOKS_SIGNS || !canStandInBooks(i, signs[i])) {
                return i;
            }
        }
        return many % 3 == 2 ? NONE : many;
    }

    private boolean canStandInBooks(int at, char sign) {
        switch (at % 3) {
            case 0: return sign >= '1' && sign <= '9' && now.books + at / 3 < MOST_BOOKS;
            case 1: return isDigit(sign);
            default: return sign == ';';
        }
    }

    private int badSignOfReaders(int many) {
        for (int i = 0; i < many; i++) {
            if (i == READERS_SIGNS || !canStandInReaders(i, signs[i])) {
                return i;
            }
        }
        return many % 2 == 1 ? NONE : many;
    }

    private boolean canStandInReaders(int at, char sign) {
        if (at % 2 == 1) {
            return sign == ';';
        }
        return isDigit(sign) && now.readers + at / 2 < MOST_READERS;
    }

    /** Lays the wall on trial while it is read. */
    private int badSignOfWall(int many) {
        for (int i = 0; i < many; i++) {
            boolean begins = i == 0 || signs[i - 1] == '/';
            boolean isEmpty = !begins && signs[i - 1] == '-';
            if (!canStandInWall(signs[i], begins, isEmpty)) {
                return i;
            }
        }
        return many == 0 || signs[many - 1] == '/' ? many : NONE;
    }

    private boolean canStandInWall(char sign, boolean begins, boolean isEmpty) {
        int c = trial.columns - 1;
        if (sign == '-') {
            return begins;
        }
        if (sign == '/') {
            return !begins && trial.addColumn();
        }
        int b = sign - 'a';
        if (isEmpty || !trial.isBook(b) || trial.where[b] != ON_HEAP || trial.many[c] == PLACES) {
            return false;
        }
        trial.put(b, c);
        return true;
    }

    /** Another is free to be spoilt: the rule in force is never read into. */
    private int readAnother() {
        int many = takeText();
        if (many == 0) {
            another.setUsual();
            return NONE;
        }
        return another.read(signs, many);
    }

    private int perform(int i) {
        int a = acts.parts[i * Acts.PARTS];
        int b = acts.parts[i * Acts.PARTS + 1];
        int n = acts.parts[i * Acts.PARTS + 2];
        switch (acts.kinds[i]) {
            case 'l': return now.layOn(a, b, inForce);
            case 'o': return now.lendTo(a, b, n);
            case 'r': return now.callBack(a);
            case 's': return now.shoot(a, b);
            default: return now.passDays(a);
        }
    }

    /** The most books of a column that is high enough; of as many the least bits. */
    private int mostSpared(int c, int h) {
        // One that does not hold has nothing to keep but its height.
        boolean mustHold = now.holdsUp(c, inForce);
        int best = 0;
        for (int choice = 1; choice < 1 << now.many[c]; choice++) {
            int bits = now.bitsChosen(c, choice);
            int more = Integer.bitCount(bits) - Integer.bitCount(best);
            if (more < 0 || (more == 0 && bits > best) || now.heightWithout(c, choice) < h) {
                continue;
            }
            trial.copyColumnWithout(now, c, choice);
            if (!mustHold || trial.holdsUp(c, inForce)) {
                best = bits;
            }
        }
        return best;
    }

    private int tellSteps(int many) {
        if (many >= 0) {
            tellRow(mason.steps, 2 * many);
        }
        return many;
    }

    private int seenBits() {
        int bits = 0;
        for (int c = 0; c < now.columns; c++) {
            if (seenHeight[c] != NONE) {
                bits |= 1 << c;
            }
        }
        return bits;
    }

    private int heightsShown(int c) {
        // A column is at most 36 high, so a long has a bit for each height.
        long heights = 0;
        for (int choice = 0; choice < 1 << now.many[c]; choice++) {
            heights |= 1L << now.heightWithout(c, choice);
        }
        return Long.bitCount(heights);
    }

    private static int gain(int mine, int other, int v, int f) {
        int part = mine > other ? v : mine == other ? v / 2 : 0;
        return part - f * mine;
    }

    private static boolean isBestAgainst(int mine, int other, int v, int f) {
        int has = gain(mine, other, v, f);
        for (int x = 0; x <= MOST_DAYS_TOO_LONG; x++) {
            if (gain(x, other, v, f) > has) {
                return false;
            }
        }
        return true;
    }

    private static int nextDraw(int r) {
        return r * 1103515245 + 12345;
    }

    private static int drawn(int r, int n) {
        return n > 0 ? (r >>> 16) % n : 0;
    }

    /** Books, columns and readers on one day, and what can be done with them. */
    private static final class City {
        /** Numbers on a page: the day, fines, three of each book, columns. */
        static final int PAGE =
                1 + MOST_READERS + 3 * MOST_BOOKS + MOST_COLUMNS + MOST_COLUMNS * PLACES;

        int books;
        final int[] thick = new int[MOST_BOOKS];
        final int[] weight = new int[MOST_BOOKS];
        final int[] where = new int[MOST_BOOKS];
        final int[] holder = new int[MOST_BOOKS];
        final int[] due = new int[MOST_BOOKS];
        int columns = 1;
        final int[] many = new int[MOST_COLUMNS];
        final int[] pile = new int[MOST_COLUMNS * PLACES];
        int readers;
        final int[] late = new int[MOST_READERS];
        final int[] fines = new int[MOST_READERS];
        int day;
        /** What the latest shot broke, and what the latest days brought back. */
        int broken;
        int cameBack;
        int paid;

        boolean isBook(int b) {
            return b >= 0 && b < books;
        }

        boolean isColumn(int c) {
            return c >= 0 && c < columns;
        }

        boolean isReader(int r) {
            return r >= 0 && r < readers;
        }

        void addBook(int itsThick, int itsWeight) {
            if (books == MOST_BOOKS) {
                return;
            }
            thick[books] = itsThick;
            weight[books] = itsWeight;
            books++;
            lift(books - 1, ON_HEAP);
        }

        void addReader(int itsLate) {
            if (readers == MOST_READERS) {
                return;
            }
            late[readers] = itsLate;
            readers++;
        }

        boolean addColumn() {
            if (columns == MOST_COLUMNS) {
                return false;
            }
            many[columns] = 0;
            columns++;
            return true;
        }

        void pullDown() {
            for (int b = 0; b < books; b++) {
                lift(b, ON_HEAP);
            }
            columns = 1;
        }

        int bookAt(int c, int k) {
            return pile[c * PLACES + k];
        }

        int topOf(int c) {
            return many[c] == 0 ? NONE : bookAt(c, many[c] - 1);
        }

        int placeOf(int b) {
            if (where[b] != IN_COLUMN) {
                return NONE;
            }
            int c = holder[b];
            for (int k = 0; k < many[c]; k++) {
                if (bookAt(c, k) == b) {
                    return k;
                }
            }
            return NONE;
        }

        int heightOf(int c) {
            return heightWithout(c, 0);
        }

        /** Choice: bits of places, from below, whose books are thought to be out. */
        int heightWithout(int c, int choice) {
            int height = 0;
            for (int k = 0; k < many[c]; k++) {
                if ((choice >> k & 1) == 0) {
                    height += thick[bookAt(c, k)];
                }
            }
            return height;
        }

        int bitsChosen(int c, int choice) {
            int bits = 0;
            for (int k = 0; k < many[c]; k++) {
                if ((choice >> k & 1) == 1) {
                    bits |= 1 << bookAt(c, k);
                }
            }
            return bits;
        }

        int weightOf(int c) {
            int sum = 0;
            for (int k = 0; k < many[c]; k++) {
                sum += weight[bookAt(c, k)];
            }
            return sum;
        }

        int leastHeight() {
            return leastHeightWithout(NONE);
        }

        int leastHeightWithout(int b) {
            int least = HIGHEST;
            for (int c = 0; c < columns; c++) {
                int height = heightOf(c);
                if (b != NONE && holder[b] == c) {
                    height -= thick[b];
                }
                least = Math.min(least, height);
            }
            return least;
        }

        int bitsWhere(int place) {
            int bits = 0;
            for (int b = 0; b < books; b++) {
                if (where[b] == place) {
                    bits |= 1 << b;
                }
            }
            return bits;
        }

        int loansOf(int r) {
            int bits = 0;
            for (int b = 0; b < books; b++) {
                if (where[b] == LENT && holder[b] == r) {
                    bits |= 1 << b;
                }
            }
            return bits;
        }

        int backOn(int b) {
            return due[b] + late[holder[b]];
        }

        int bearsAt(int c, int k, Rule rule) {
            int b = bookAt(c, k);
            int worth = rule.worth(thick[b], weight[b], c, k, many[c], day % 10);
            return between(0, worth, MOST_BORNE);
        }

        boolean holdsUp(int c, Rule rule) {
            int above = 0;
            for (int k = many[c] - 1; k >= 0; k--) {
                // Nothing is always borne: the rule need not be asked then.
                if (above > 0 && above > bearsAt(c, k, rule)) {
                    return false;
                }
                above += weight[bookAt(c, k)];
            }
            return true;
        }

        void put(int b, int c) {
            if (many[c] == PLACES) {
                return;
            }
            pile[c * PLACES + many[c]] = b;
            many[c]++;
            where[b] = IN_COLUMN;
            holder[b] = c;
        }

        /** Takes a book from wherever it is; those above it in its column sink. */
        void lift(int b, int to) {
            int k = placeOf(b);
            if (k != NONE) {
                int c = holder[b];
                many[c]--;
                for (int i = c * PLACES + k; i < c * PLACES + many[c]; i++) {
                    pile[i] = pile[i + 1];
                }
            }
            where[b] = to;
            holder[b] = NONE;
            due[b] = NONE;
        }

        int layOn(int b, int c, Rule rule) {
            if (!isBook(b) || !isColumn(c)) {
                return NONE;
            }
            if (where[b] != ON_HEAP) {
                return -2;
            }
            if (many[c] == PLACES) {
                return -3;
            }
            put(b, c);
            if (holdsUp(c, rule)) {
                return heightOf(c);
            }
            lift(b, ON_HEAP);
            return -4;
        }

        int lendTo(int b, int r, int n) {
            if (!isBook(b) || !isReader(r) || n < 1 || n > 30) {
                return NONE;
            }
            if (where[b] == LENT || where[b] == LOST) {
                return -2;
            }
            if (Integer.bitCount(loansOf(r)) >= LOANS) {
                return -3;
            }
            lift(b, LENT);
            holder[b] = r;
            due[b] = day + n;
            return due[b];
        }

        int callBack(int b) {
            if (!isBook(b)) {
                return NONE;
            }
            if (where[b] != LENT) {
                return -2;
            }
            int r = holder[b];
            lift(b, ON_HEAP);
            return r;
        }

        int shoot(int c, int n) {
            if (!isColumn(c) || n < 1 || n > PLACES) {
                return NONE;
            }
            if (many[c] == 0) {
                return -2;
            }
            broken = 0;
            for (int i = 0; i < n && many[c] > 0; i++) {
                int b = topOf(c);
                broken |= 1 << b;
                lift(b, LOST);
            }
            return heightOf(c);
        }

        int passDays(int n) {
            if (n < 0 || n > 99) {
                return NONE;
            }
            cameBack = 0;
            paid = 0;
            for (int i = 0; i < n; i++) {
                passDay();
            }
            return day;
        }

        void passDay() {
            day++;
            for (int b = 0; b < books; b++) {
                if (where[b] == LENT && backOn(b) == day) {
                    int r = holder[b];
                    fines[r] += late[r];
                    paid += late[r];
                    cameBack |= 1 << b;
                    lift(b, ON_HEAP);
                }
            }
        }

        void copyFrom(City other) {
            books = other.books;
            columns = other.columns;
            readers = other.readers;
            day = other.day;
            System.arraycopy(other.thick, 0, thick, 0, MOST_BOOKS);
            System.arraycopy(other.weight, 0, weight, 0, MOST_BOOKS);
            System.arraycopy(other.where, 0, where, 0, MOST_BOOKS);
            System.arraycopy(other.holder, 0, holder, 0, MOST_BOOKS);
            System.arraycopy(other.due, 0, due, 0, MOST_BOOKS);
            System.arraycopy(other.many, 0, many, 0, MOST_COLUMNS);
            System.arraycopy(other.pile, 0, pile, 0, MOST_COLUMNS * PLACES);
            System.arraycopy(other.late, 0, late, 0, MOST_READERS);
            System.arraycopy(other.fines, 0, fines, 0, MOST_READERS);
        }

        /** This one column alone: its books are not told where they are then. */
        void copyColumnWithout(City other, int c, int choice) {
            many[c] = 0;
            for (int k = 0; k < other.many[c]; k++) {
                if ((choice >> k & 1) == 0) {
                    pile[c * PLACES + many[c]] = other.bookAt(c, k);
                    many[c]++;
                }
            }
        }

        void writePage(int[] page) {
            page[0] = day;
            int at = 1;
            System.arraycopy(fines, 0, page, at, MOST_READERS);
            at += MOST_READERS;
            System.arraycopy(where, 0, page, at, MOST_BOOKS);
            at += MOST_BOOKS;
            System.arraycopy(holder, 0, page, at, MOST_BOOKS);
            at += MOST_BOOKS;
            System.arraycopy(due, 0, page, at, MOST_BOOKS);
            at += MOST_BOOKS;
            System.arraycopy(many, 0, page, at, MOST_COLUMNS);
            at += MOST_COLUMNS;
            System.arraycopy(pile, 0, page, at, MOST_COLUMNS * PLACES);
        }

        void readPage(int[] page) {
            day = page[0];
            int at = 1;
            System.arraycopy(page, at, fines, 0, MOST_READERS);
            at += MOST_READERS;
            System.arraycopy(page, at, where, 0, MOST_BOOKS);
            at += MOST_BOOKS;
            System.arraycopy(page, at, holder, 0, MOST_BOOKS);
            at += MOST_BOOKS;
            System.arraycopy(page, at, due, 0, MOST_BOOKS);
            at += MOST_BOOKS;
            System.arraycopy(page, at, many, 0, MOST_COLUMNS);
            at += MOST_COLUMNS;
            System.arraycopy(page, at, pile, 0, MOST_COLUMNS * PLACES);
        }
    }

    /** A rule as it is reckoned: each thing ahead of what joins it, without brackets. */
    private static final class Rule {
        private static final int BRACKETS = 4;
        private static final int NAMES = 1000;
        private static final int JOINS = 2000;
        /** No sign of a text has this number, so it can't be told as a join. */
        private static final int MINUS_AHEAD = 256;

        private final int[] code = new int[RULE_SIGNS];
        private int size;
        private final int[] worths = new int[RULE_SIGNS];
        private final int[] waiting = new int[RULE_SIGNS];
        private int waits;
        private final boolean[] compared = new boolean[BRACKETS + 1];
        private int depth;
        private int digits;
        private boolean wantsThing;

        Rule() {
            setUsual();
        }

        void setUsual() {
            code[0] = NAMES + 't';
            code[1] = 4;
            code[2] = JOINS + '*';
            size = 3;
        }

        /** Answers where the first sign is that can't stand there, or NONE. */
        int read(char[] signs, int many) {
            size = 0;
            waits = 0;
            depth = 0;
            digits = 0;
            compared[0] = false;
            wantsThing = true;
            for (int i = 0; i < many; i++) {
                if (i == RULE_SIGNS || !takes(signs[i])) {
                    return i;
                }
            }
            if (wantsThing || depth > 0) {
                return many;
            }
            release(1);
            return NONE;
        }

        int worth(int t, int w, int c, int k, int n, int d) {
            int top = 0;
            for (int i = 0; i < size; i++) {
                int x = code[i];
                if (x < NAMES) {
                    worths[top] = x;
                    top++;
                } else if (x < JOINS) {
                    worths[top] = named(x - NAMES, t, w, c, k, n, d);
                    top++;
                } else if (x == JOINS + MINUS_AHEAD) {
                    worths[top - 1] = -worths[top - 1];
                } else {
                    top--;
                    worths[top - 1] = joined(x - JOINS, worths[top - 1], worths[top]);
                }
            }
            return worths[0];
        }

        private static int named(int name, int t, int w, int c, int k, int n, int d) {
            switch (name) {
                case 't': return t;
                case 'w': return w;
                case 'c': return c;
                case 'k': return k;
                case 'n': return n;
                default: return d;
            }
        }

        private static int joined(int join, int a, int b) {
            switch (join) {
                case '+': return a + b;
                case '-': return a - b;
                case '*': return a * b;
                case '/': return b == 0 ? 0 : a / b;
                case '<': return a < b ? 1 : 0;
                case '>': return a > b ? 1 : 0;
                default: return a == b ? 1 : 0;
            }
        }

        private static int strengthOf(int join) {
            switch (join) {
                case '<': case '>': case '=': return 1;
                case '+': case '-': return 2;
                case '*': case '/': return 3;
                case MINUS_AHEAD: return 4;
                default: return 0;
            }
        }

        private static boolean isName(char s) {
            return s == 't' || s == 'w' || s == 'c' || s == 'k' || s == 'n' || s == 'd';
        }

        private boolean takes(char s) {
            if (isDigit(s)) {
                return takesDigit(s - '0');
            }
            digits = 0;
            return wantsThing ? takesAhead(s) : takesBehind(s);
        }

        private boolean takesDigit(int digit) {
            if (digits == 3 || (digits == 0 && !wantsThing)) {
                return false;
            }
            if (digits == 0) {
                emit(digit);
                wantsThing = false;
            } else {
                code[size - 1] = code[size - 1] * 10 + digit;
            }
            digits++;
            return true;
        }

        private boolean takesAhead(char s) {
            if (s == '-') {
                hold(MINUS_AHEAD);
                return true;
            }
            if (s == '(') {
                return opens();
            }
            if (!isName(s)) {
                return false;
            }
            emit(NAMES + s);
            wantsThing = false;
            return true;
        }

        private boolean takesBehind(char s) {
            if (s == ')') {
                return closes();
            }
            int strength = strengthOf(s);
            if (strength == 0 || (strength == 1 && compared[depth])) {
                return false;
            }
            if (strength == 1) {
                compared[depth] = true;
            }
            release(strength);
            hold(s);
            wantsThing = true;
            return true;
        }

        private boolean opens() {
            if (depth == BRACKETS) {
                return false;
            }
            depth++;
            compared[depth] = false;
            hold('(');
            return true;
        }

        private boolean closes() {
            if (depth == 0) {
                return false;
            }
            release(1);
            waits--;
            depth--;
            return true;
        }

        /** Joins that bind as much or more come first; a bracket, of strength 0, stops them. */
        private void release(int strength) {
            while (waits > 0 && strengthOf(waiting[waits - 1]) >= strength) {
                waits--;
                emit(JOINS + waiting[waits]);
            }
        }

        private void hold(int join) {
            waiting[waits] = join;
            waits++;
        }

        private void emit(int x) {
            code[size] = x;
            size++;
        }
    }

    /** The acts of a siege as they were read. */
    private static final class Acts {
        static final int PARTS = 3;
        private static final int MOST_ACTS = 20;
        private static final int NO_MORE = 0;
        private static final int LETTER = 1;
        private static final int DIGIT = 2;
        private static final int NUMBER = 3;

        final int[] kinds = new int[MOST_ACTS];
        final int[] parts = new int[MOST_ACTS * PARTS];
        int size;
        /** Parts of the newest act that were read; NONE: its kind is to come. */
        private int step;
        private boolean mayGrow;

        int read(char[] signs, int many) {
            size = 0;
            step = NONE;
            for (int i = 0; i < many; i++) {
                if (i == SIEGE_SIGNS || !takes(signs[i])) {
                    return i;
                }
            }
            return many == 0 || isWhole() ? NONE : many;
        }

        private static int partOf(int kind, int step) {
            switch (kind) {
                case 'l': return step == 0 ? LETTER : step == 1 ? DIGIT : NO_MORE;
                case 'o': return step == 0 ? LETTER : step == 1 ? DIGIT : step == 2 ? NUMBER : NO_MORE;
                case 'r': return step == 0 ? LETTER : NO_MORE;
                case 's': return step < 2 ? DIGIT : NO_MORE;
                default: return step == 0 ? NUMBER : NO_MORE;
            }
        }

        private boolean isWhole() {
            return step != NONE && partOf(kinds[size - 1], step) == NO_MORE;
        }

        private boolean takes(char s) {
            if (step == NONE) {
                return begins(s);
            }
            switch (partOf(kinds[size - 1], step)) {
                case LETTER: return s >= 'a' && s <= 'l' && adds(s - 'a', false);
                case DIGIT: return isDigit(s) && adds(s - '0', false);
                case NUMBER: return isDigit(s) && adds(s - '0', true);
                default: return s == ';' ? ends() : grows(s);
            }
        }

        private boolean begins(char s) {
            if (size == MOST_ACTS || (s != 'l' && s != 'o' && s != 'r' && s != 's' && s != 'd')) {
                return false;
            }
            kinds[size] = s;
            size++;
            step = 0;
            return true;
        }

        private boolean adds(int value, boolean isNumber) {
            parts[(size - 1) * PARTS + step] = value;
            step++;
            mayGrow = isNumber;
            return true;
        }

        private boolean ends() {
            step = NONE;
            return true;
        }

        private boolean grows(char s) {
            if (!mayGrow || !isDigit(s)) {
                return false;
            }
            int at = (size - 1) * PARTS + step - 1;
            parts[at] = parts[at] * 10 + s - '0';
            mayGrow = false;
            return true;
        }
    }

    /** Pages of the city ahead of what was done, the latest ones. */
    private static final class History {
        /** One page more than can be undone, so that a mark never falls on one of those. */
        private static final int PAGES = MOST_UNDONE + 1;

        private final int[][] pages = new int[PAGES][City.PAGE];
        private int next;
        int left;

        void mark(City city) {
            city.writePage(pages[next]);
        }

        void keepMark() {
            next = (next + 1) % PAGES;
            left = Math.min(left + 1, MOST_UNDONE);
        }

        void restore(City city) {
            next = (next + PAGES - 1) % PAGES;
            left--;
            city.readPage(pages[next]);
        }

        void clear() {
            left = 0;
        }
    }

    /** Looks for the fewest books, by their numbers, that make all columns high. */
    private static final class Mason {
        final int[] steps = new int[2 * MOST_LAID];
        private static final int SUMS = MOST_LAID + 1;

        private final int[] stock = new int[MOST_LAID];
        private int stocked;
        private int wanted;
        /** At least 1, so that it can divide when there is no stock. */
        private int thickest = 1;
        /** From a place in the stock on, of so many books: the greatest thickness together. */
        private final int[] mostThick = new int[SUMS * SUMS];

        /** How many, and the city stands so then; -2: it can't be, -3: there are too many. */
        int fewest(City city, Rule rule, int from, int h) {
            if (Integer.bitCount(city.bitsWhere(from)) > MOST_LAID) {
                return -3;
            }
            wanted = h;
            stockUp(city, from);
            for (int n = 0; n <= stocked; n++) {
                if (reaches(city, rule, 0, 0, n)) {
                    return n;
                }
            }
            return -2;
        }

        private void stockUp(City city, int from) {
            stocked = 0;
            thickest = 1;
            for (int b = 0; b < city.books; b++) {
                if (city.where[b] == from && stocked < MOST_LAID) {
                    city.lift(b, ON_HEAP);
                    thickest = Math.max(thickest, city.thick[b]);
                    stock[stocked] = b;
                    stocked++;
                }
            }
            Arrays.fill(mostThick, NONE);
            mostThick[stocked * SUMS] = 0;
            for (int i = stocked - 1; i >= 0; i--) {
                addUp(i, city.thick[stock[i]]);
            }
        }

        private void addUp(int i, int itsThick) {
            mostThick[i * SUMS] = 0;
            for (int n = 1; n <= stocked - i; n++) {
                int with = itsThick + mostThick[(i + 1) * SUMS + n - 1];
                mostThick[i * SUMS + n] = Math.max(with, mostThick[(i + 1) * SUMS + n]);
            }
        }

        private boolean reaches(City city, Rule rule, int from, int laid, int n) {
            if (!canReach(city, from, n - laid)) {
                return false;
            }
            if (laid == n) {
                return true;
            }
            for (int i = from; i < stocked; i++) {
                // A column that is high enough needs no more, so the fewest go elsewhere.
                for (int c = 0; c < city.columns; c++) {
                    if (city.heightOf(c) >= wanted || city.layOn(stock[i], c, rule) < 0) {
                        continue;
                    }
                    steps[2 * laid] = stock[i];
                    steps[2 * laid + 1] = c;
                    if (reaches(city, rule, i + 1, laid + 1, n)) {
                        return true;
                    }
                    city.lift(stock[i], ON_HEAP);
                }
            }
            return false;
        }

        /** Whether as many books as are left could do if they were all borne. */
        private boolean canReach(City city, int from, int left) {
            int lack = 0;
            int needed = 0;
            for (int c = 0; c < city.columns; c++) {
                int less = wanted - city.heightOf(c);
                if (less <= 0) {
                    continue;
                }
                int atLeast = (less + thickest - 1) / thickest;
                if (atLeast > PLACES - city.many[c]) {
                    return false;
                }
                lack += less;
                needed += atLeast;
            }
            return needed <= left && lack <= mostThick[from * SUMS + left];
        }
    }

    /** The enemy and the city by turns; a turn that can't better what is had ends early. */
    private static final class Duel {
        int first;

        int outcome(City city, Rule rule, int n) {
            first = NONE;
            int best = HIGHEST + 1;
            for (int c = 0; c < city.columns; c++) {
                int b = city.topOf(c);
                if (b == NONE) {
                    continue;
                }
                city.lift(b, LOST);
                int then = afterCity(city, rule, n - 1, best);
                city.put(b, c);
                if (then < best) {
                    best = then;
                    first = c;
                }
            }
            return first == NONE ? afterCity(city, rule, n - 1, best) : best;
        }

        private int afterEnemy(City city, Rule rule, int left, int enough) {
            if (left == 0) {
                return city.leastHeight();
            }
            int best = HIGHEST + 1;
            boolean took = false;
            for (int c = 0; c < city.columns && best > enough; c++) {
                int b = city.topOf(c);
                if (b == NONE) {
                    continue;
                }
                took = true;
                city.lift(b, LOST);
                best = Math.min(best, afterCity(city, rule, left - 1, best));
                city.put(b, c);
            }
            return took ? best : afterCity(city, rule, left - 1, best);
        }

        private int afterCity(City city, Rule rule, int left, int enough) {
            if (left == 0) {
                return city.leastHeight();
            }
            int best = afterEnemy(city, rule, left - 1, NONE);
            int least = city.leastHeight();
            for (int b = 0; b < city.books && best < enough; b++) {
                if (city.where[b] != ON_HEAP) {
                    continue;
                }
                for (int c = 0; c < city.columns && best < enough; c++) {
                    // With the last turn only what makes the lowest column higher can help.
                    if (left == 1 && city.heightOf(c) > least) {
                        continue;
                    }
                    if (city.layOn(b, c, rule) >= 0) {
                        best = Math.max(best, afterEnemy(city, rule, left - 1, best));
                        city.lift(b, ON_HEAP);
                    }
                }
            }
            return best;
        }
    }

    /** Orders of some books in which a column of them holds. */
    private static final class Orders {
        final int[] least = new int[PLACES];
        private int holding;

        int countThose(City city, Rule rule, int those, int c) {
            holding = 0;
            city.many[c] = Math.min(Integer.bitCount(those), PLACES);
            order(city, rule, those, c, 0);
            return holding;
        }

        private void order(City city, Rule rule, int those, int c, int k) {
            if (k == city.many[c]) {
                weigh(city, rule, c);
                return;
            }
            for (int b = 0; b < city.books; b++) {
                if ((those >> b & 1) == 1) {
                    city.pile[c * PLACES + k] = b;
                    order(city, rule, those & ~(1 << b), c, k + 1);
                }
            }
        }

        private void weigh(City city, Rule rule, int c) {
            if (!city.holdsUp(c, rule)) {
                return;
            }
            if (holding == 0) {
                System.arraycopy(city.pile, c * PLACES, least, 0, city.many[c]);
            }
            holding++;
        }
    }
}
