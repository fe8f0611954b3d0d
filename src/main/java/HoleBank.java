import java.util.Arrays;

/** The bank of holes: what is lent, how it grows, whom it serves. The document is ../shared/DOC.md. */
public final class HoleBank {
    public static final int NONE = -1, BAD = -2, NOT = -3, FULL = -4;

    private static final int NULL = 1, INDEX = 2, CAST = 3, STORE = 4, SIZE = 5;
    private static final int ANY_NUMBER_BAD = -1000 + BAD;
    private static final int LEAST_INT = 0x80000000;
    private static final long LONG_BAD = 0x8000000000000000L - BAD;

    private static final int TEXTS = 2, TEXT_BYTES = 39, ITEM_BYTES = 5, FIGURES = 4;
    private static final int HOLES = 8, WORKS = 8, DAYS = 40, PERSONS = 6, LEAST = 1, MOST = 9;
    private static final int LOANS = 12, FILLINGS = 8, PATCHES = 8, SIGHTS = 8;
    private static final int MOST_EASE = 8, MOST_MENDS = 3, SIXTEENTHS = 16;
    private static final int SHEETS = 4, FORMS = 3, SHEET_ITEMS = 60;

    /** The figures of an item of a text. */
    private static final int SHAPE = 0, WIDE = 1, DEEP = 2, GROWS = 3, WORTH = 3;
    private static final int SQUARE = 1, LONG = 2, ANY = 3;
    /** The columns of what is told; a sight has its width where a loan has its person. */
    private static final int COLUMNS = 4, DAY = 0, WHICH = 1, PERSON = 2, SO_WIDE = 2, FOR_DAYS = 3;

    private final Text holes = new Text("rsl", 1, 0);
    private final Text works = new Text("rsla", 0, 1);
    private final Book book = new Book(LOANS);
    private final Rows sights = new Rows(SIGHTS);
    /** What came of the book; it is followed anew only when it is asked for and stale. */
    private final Course told = new Course();
    private boolean stale = true;
    /** What would have come of another book. */
    private final Book otherBook = new Book(LOANS + DAYS);
    private final Course other = new Course();
    private final Match match = new Match();
    private final int[] alike = new int[HOLES * (MOST + 1)];
    private final Sheet[] sheets = new Sheet[SHEETS];
    private int ease = 2;
    private int finding = 0;

    public HoleBank() {
        for (int s = 0; s < SHEETS; s++) {
            sheets[s] = new Sheet();
        }
    }

    // ---- holes, works, loans

    public int type(int text, int b) {
        if (!isBelow(text, TEXTS) || !isBelow(b, 256)) {
            return BAD;
        }
        Text t = textOf(text);
        if (t.length >= TEXT_BYTES) {
            return FULL;
        }
        stale = true;
        return t.append(b);
    }

    public int wipe(int text) {
        if (!isBelow(text, TEXTS)) {
            return BAD;
        }
        stale = true;
        Text t = textOf(text);
        int had = t.length;
        t.shorten(0);
        return had;
    }

    public int undo(int text) {
        if (!isBelow(text, TEXTS)) {
            return BAD;
        }
        Text t = textOf(text);
        if (t.length == 0) {
            return NOT;
        }
        stale = true;
        t.shorten(t.length - 1);
        return t.length;
    }

    public int fault(int text) {
        return isBelow(text, TEXTS) ? textOf(text).fault : BAD;
    }

    public int hole(int hole, int what) {
        return isHole(hole) && isBelow(what, FIGURES) ? holes.figure(hole, what) : BAD;
    }

    public int work(int work, int what) {
        return isWork(work) && isBelow(what, FIGURES) ? works.figure(work, what) : BAD;
    }

    public int loan(int day, int hole, int person, int days) {
        if (!mayBeLoan(day, hole, person, days)) {
            return BAD;
        }
        if (book.loans.isFull()) {
            return FULL;
        }
        stale = true;
        return book.loans.add(day, hole, person, days);
    }

    public int fill(int day, int hole) {
        return tell(book.fillings, day, hole);
    }

    public int patch(int day, int hole) {
        return tell(book.patches, day, hole);
    }

    public int back(int what) {
        if (!isBelow(what, 3)) {
            return BAD;
        }
        Rows rows = what == 0 ? book.loans : what == 1 ? book.fillings : book.patches;
        if (rows.size == 0) {
            return NOT;
        }
        stale = true;
        return rows.drop(rows.size - 1);
    }

    public int read(int s) {
        if (!isBelow(s, SHEETS)) {
            return BAD;
        }
        Sheet sheet = sheets[s];
        if (sheet.isLost) {
            return found(NULL);
        }
        int taken = 0;
        for (int i = 0; i + COLUMNS <= sheet.size; i += COLUMNS) {
            if (loan(sheet.item(i), sheet.item(i + 1), sheet.item(i + 2), sheet.item(i + 3)) < 0) {
                break;
            }
            taken++;
        }
        return taken;
    }

    public int ease(int v) {
        if (!isBelow(v, MOST_EASE + 1)) {
            return BAD;
        }
        int was = ease;
        ease = v;
        return was;
    }

    // ---- days

    public int is(int day, int hole, int what) {
        if (!isBelow(day, DAYS) || !isHole(hole) || !isBelow(what, 3)) {
            return BAD;
        }
        Course course = toldCourse();
        if (what == 0) {
            return course.wideBehind(day, hole);
        }
        if (what == 1) {
            return course.deepBehind(day, hole);
        }
        int loan = course.loanBehind(day, hole);
        return loan == NONE ? NONE : book.loans.cell(loan, PERSON);
    }

    public int behind(int day, int what) {
        if (!isBelow(day, DAYS) || !isBelow(what, 2)) {
            return BAD;
        }
        Course course = toldCourse();
        return what == 0 ? course.vaultBehind(day) : course.filled[day];
    }

    public int came(int loan, int what) {
        if (!isBelow(loan, book.loans.size) || !isBelow(what, 3)) {
            return ANY_NUMBER_BAD;
        }
        Course course = toldCourse();
        if (what == 0) {
            return course.counted[loan];
        }
        if (what == 1) {
            return course.breachDay[loan] == NONE ? 0 : 1;
        }
        return course.more[loan];
    }

    public int breaches(int person) {
        if (!isBelow(person, PERSONS)) {
            return BAD;
        }
        Course course = toldCourse();
        int n = 0;
        for (int l = 0; l < book.loans.size; l++) {
            if (course.breachDay[l] != NONE && book.loans.cell(l, PERSON) == person) {
                n++;
            }
        }
        return n;
    }

    public int first() {
        Course course = toldCourse();
        int least = NONE;
        int leastDay = DAYS;
        for (int l = 0; l < book.loans.size; l++) {
            int day = course.breachDay[l];
            if (day != NONE && day < leastDay) {
                least = l;
                leastDay = day;
            }
        }
        return least;
    }

    // ---- works

    public int serves(int day, int hole) {
        if (!isBelow(day, DAYS) || !isHole(hole)) {
            return BAD;
        }
        Course course = toldCourse();
        int bits = 0;
        for (int w = 0; w < works.items; w++) {
            if (suits(w, hole, course.wideBehind(day, hole), course.deepBehind(day, hole))) {
                bits |= 1 << w;
            }
        }
        return bits;
    }

    public int best(int day, int i) {
        if (!isBelow(day, DAYS) || i != NONE && !isBelow(i, WORKS)) {
            return BAD;
        }
        int worth = mostWorth(toldCourse(), day);
        return i == NONE ? worth : match.holeFor(i);
    }

    public int mend(int work, int day, int i) {
        if (!isWork(work) || !isBelow(day, DAYS) || i != NONE && !isBelow(i, MOST_MENDS)) {
            return BAD;
        }
        Course course = toldCourse();
        for (int n = 0; n <= MOST_MENDS; n++) {
            int hole = holeMendedBy(course, work, day, n);
            if (hole != NONE) {
                return i == NONE ? n : i < n ? hole : NONE;
            }
        }
        return NONE;
    }

    public int call(int day, int what) {
        if (!isBelow(day, DAYS) || !isBelow(what, 2)) {
            return ANY_NUMBER_BAD;
        }
        Course course = toldCourse();
        int now = mostWorth(course, day);
        int which = NONE;
        int most = NONE;
        for (int l = 0; l < book.loans.size; l++) {
            if (!course.isOutBy(day, book.loans.cell(l, WHICH), l)) {
                continue;
            }
            int worth = mostWorth(courseWithoutLoan(l, day), day);
            if (worth > most) {
                which = l;
                most = worth;
            }
        }
        return which == NONE ? NONE : what == 0 ? which : most - now;
    }

    // ---- seen, moths, runs

    public int seen(int day, int hole, int wide) {
        if (!isBelow(day, DAYS) || !isBelow(hole, HOLES) || !isBelow(wide, MOST + 1)) {
            return BAD;
        }
        return sights.isFull() ? FULL : sights.add(day, hole, wide, 0);
    }

    public int forget() {
        int had = sights.size;
        sights.clear();
        return had;
    }

    public int never(int what) {
        if (!isBelow(what, 2)) {
            return BAD;
        }
        int bits = 0;
        int rows = what == 0 ? book.loans.size : book.patches.size;
        int lastDay = lastSightDay();
        for (int k = 0; k < rows; k++) {
            Course course = what == 0 ? courseWithoutLoan(k, lastDay) : courseWithoutPatch(k, lastDay);
            if (comesOutAsSeen(course)) {
                bits |= 1 << k;
            }
        }
        return bits;
    }

    public int look(int day) {
        if (!isBelow(day, DAYS)) {
            return BAD;
        }
        Arrays.fill(alike, 0);
        int lastDay = Math.max(day, lastSightDay());
        for (int l = 0; l < book.loans.size; l++) {
            Course course = courseWithoutLoan(l, lastDay);
            if (comesOutAsSeen(course)) {
                addToAlike(course, day);
            }
        }
        int tellsMost = NONE;
        int least = LOANS + 1;
        for (int h = 0; h < holes.items; h++) {
            int greatest = greatestAlike(h);
            if (greatest < least) {
                tellsMost = h;
                least = greatest;
            }
        }
        return tellsMost;
    }

    public long moths(int c, int day, int work, int what) {
        if (!isBelow(c, SIXTEENTHS + 1) || !isBelow(day, DAYS) || !isWork(work) || !isBelow(what, 2)) {
            return LONG_BAD;
        }
        Course course = toldCourse();
        long missed = 1;
        long below = 1;
        for (int h = 0; h < holes.items; h++) {
            if (course.loanBehind(day, h) == NONE) {
                missed *= SIXTEENTHS - sixteenthsServed(course, work, day, h, c);
                below *= SIXTEENTHS;
            }
        }
        long above = below - missed;
        // below is a power of two, at most 2 to the 32nd, so halving reaches the lowest terms
        for (int i = 0; i < 32 && below % 2 == 0 && above % 2 == 0; i++) {
            above /= 2;
            below /= 2;
        }
        return what == 0 ? above : below;
    }

    public int run(int seed, int n, int what) {
        if (n < 1 || n > DAYS || !isBelow(what, 2)) {
            return BAD;
        }
        if (holes.items == 0) {
            return 0;
        }
        otherBook.takeAll(book);
        int lot = seed;
        for (int day = 0; day < n; day++) {
            lot = nextLot(lot);
            int hole = lotOf(lot, holes.items);
            lot = nextLot(lot);
            otherBook.loans.add(day, hole, 0, lotOf(lot, 9) + 1);
        }
        other.follow(holes, otherBook, n - 1);
        return what == 0 ? other.vaultBehind(n - 1) : other.countedFrom(book.loans.size, otherBook.loans.size);
    }

    // ---- sheets

    public int sheet(int s, int form, int n) {
        if (!isBelow(s, SHEETS) || !isBelow(form, FORMS) || n > SHEET_ITEMS) {
            return BAD;
        }
        if (n < 0) {
            return found(SIZE);
        }
        sheets[s].begin(form, n);
        return n;
    }

    public int lose(int s) {
        if (!isBelow(s, SHEETS)) {
            return BAD;
        }
        Sheet sheet = sheets[s];
        if (sheet.isLost) {
            return found(NULL);
        }
        sheet.isLost = true;
        return sheet.size;
    }

    public int lay(int s, int form, int i, int v) {
        if (!isBelow(s, SHEETS) || !isBelow(form, FORMS)) {
            return BAD;
        }
        int refusal = sheets[s].refusal(form, i);
        if (refusal != 0) {
            return found(refusal);
        }
        sheets[s].put(i, v);
        return 1;
    }

    public int get(int s, int form, int i) {
        if (!isBelow(s, SHEETS) || !isBelow(form, FORMS)) {
            return LEAST_INT;
        }
        int refusal = sheets[s].refusal(form, i);
        if (refusal != 0) {
            found(refusal);
            return LEAST_INT;
        }
        return sheets[s].item(i);
    }

    public int copy(int s, int i, int t, int j, int n) {
        if (!isBelow(s, SHEETS) || !isBelow(t, SHEETS)) {
            return BAD;
        }
        Sheet from = sheets[s];
        Sheet to = sheets[t];
        if (from.isLost || to.isLost) {
            return found(NULL);
        }
        if (from.form != to.form) {
            return found(STORE);
        }
        if (!from.hasRange(i, n) || !to.hasRange(j, n)) {
            return found(INDEX);
        }
        System.arraycopy(from.items, i, to.items, j, n);
        return 1;
    }

    public int write(int day, int s) {
        if (!isBelow(day, DAYS) || !isBelow(s, SHEETS)) {
            return BAD;
        }
        Sheet sheet = sheets[s];
        if (sheet.isLost) {
            return found(NULL);
        }
        Course course = toldCourse();
        int n = Math.min(sheet.size, holes.items);
        for (int h = 0; h < n; h++) {
            sheet.put(h, course.sightOf(day, h));
        }
        return n;
    }

    public int count(int what) {
        switch (what) {
            case 0: return holes.items;
            case 1: return works.items;
            case 2: return holes.length;
            case 3: return works.length;
            case 4: return book.loans.size;
            case 5: return toldCourse().countedFrom(0, book.loans.size);
            case 6: return book.fillings.size + book.patches.size;
            case 7: return sights.size;
            case 8: return finding;
            default: return BAD;
        }
    }

    public long digest() {
        long h = 17;
        for (int what = 0; what <= 7; what++) {
            h = 31 * h + count(what);
        }
        for (int text = 0; text < TEXTS; text++) {
            h = 31 * h + fault(text);
        }
        for (int hole = 0; hole < holes.items; hole++) {
            h = digestHole(h, hole);
        }
        for (int work = 0; work < works.items; work++) {
            h = digestWork(h, work);
        }
        for (int loan = 0; loan < book.loans.size; loan++) {
            for (int what = 0; what < 3; what++) {
                h = 31 * h + came(loan, what);
            }
        }
        h = digestDay(h, 0);
        h = digestDay(h, 5);
        h = digestDay(h, 39);
        for (int person = 0; person < PERSONS; person++) {
            h = 31 * h + breaches(person);
        }
        h = 31 * h + first();
        h = 31 * h + never(0);
        h = 31 * h + never(1);
        h = 31 * h + run(7, 20, 0);
        return 31 * h + run(7, 20, 1);
    }

    // ---- the parts of a digest

    private long digestHole(long before, int hole) {
        long h = before;
        for (int what = 0; what < FIGURES; what++) {
            h = 31 * h + hole(hole, what);
        }
        for (int what = 0; what < 3; what++) {
            h = 31 * h + is(5, hole, what);
        }
        for (int what = 0; what < 3; what++) {
            h = 31 * h + is(39, hole, what);
        }
        return 31 * h + serves(5, hole);
    }

    private long digestWork(long before, int work) {
        long h = before;
        for (int what = 0; what < FIGURES; what++) {
            h = 31 * h + work(work, what);
        }
        h = 31 * h + mend(work, 3, NONE);
        h = 31 * h + mend(work, 3, 0);
        h = 31 * h + moths(5, 9, work, 0);
        return 31 * h + moths(5, 9, work, 1);
    }

    private long digestDay(long before, int day) {
        long h = before;
        h = 31 * h + behind(day, 0);
        h = 31 * h + behind(day, 1);
        h = 31 * h + best(day, NONE);
        h = 31 * h + best(day, 0);
        h = 31 * h + call(day, 0);
        h = 31 * h + call(day, 1);
        return 31 * h + look(day);
    }

    // ---- what the calls share

    private static boolean isBelow(int x, int limit) {
        return x >= 0 && x < limit;
    }

    private boolean isHole(int hole) {
        return isBelow(hole, holes.items);
    }

    private boolean isWork(int work) {
        return isBelow(work, works.items);
    }

    private static boolean mayBeLoan(int day, int hole, int person, int days) {
        return isBelow(day, DAYS) && isBelow(hole, HOLES) && isBelow(person, PERSONS) && days >= LEAST && days <= MOST;
    }

    private int tell(Rows rows, int day, int hole) {
        if (!isBelow(day, DAYS) || !isBelow(hole, HOLES)) {
            return BAD;
        }
        if (rows.isFull()) {
            return FULL;
        }
        stale = true;
        return rows.add(day, hole, 0, 0);
    }

    private Text textOf(int text) {
        return text == 0 ? holes : works;
    }

    private int found(int number) {
        finding = number;
        return -10 - number;
    }

    private Course toldCourse() {
        if (stale) {
            told.follow(holes, book, DAYS - 1);
            stale = false;
        }
        return told;
    }

    private Course courseWithoutLoan(int loan, int lastDay) {
        otherBook.takeAll(book);
        otherBook.loans.drop(loan);
        other.follow(holes, otherBook, lastDay);
        return other;
    }

    private Course courseWithoutPatch(int patch, int lastDay) {
        otherBook.takeAll(book);
        otherBook.patches.drop(patch);
        other.follow(holes, otherBook, lastDay);
        return other;
    }

    private boolean suits(int work, int hole, int wide, int deep) {
        int shape = works.figure(work, SHAPE);
        int need = works.figure(work, WIDE);
        return (shape == ANY || shape == holes.figure(hole, SHAPE))
            && wide >= need && wide <= need + ease && deep >= works.figure(work, DEEP);
    }

    private int mostWorth(Course course, int day) {
        match.begin(works.items);
        for (int w = 0; w < works.items; w++) {
            int bits = 0;
            for (int h = 0; h < holes.items; h++) {
                if (course.loanBehind(day, h) == NONE
                        && suits(w, h, course.wideBehind(day, h), course.deepBehind(day, h))) {
                    bits |= 1 << h;
                }
            }
            match.set(w, works.figure(w, WORTH), bits);
        }
        return match.solve();
    }

    /**
     * The least hole that serves a work if the day's last n patches are its own. Where n is the fewest, a patch of
     * another hole could be left out; so the least row has one hole alone.
     */
    private int holeMendedBy(Course course, int work, int day, int n) {
        for (int h = 0; h < holes.items; h++) {
            if (course.loanBehind(day, h) != NONE) {
                continue;
            }
            int wide = course.wideBehind(day, h);
            if (course.couldBePatched(day, h)) {
                wide = Math.max(LEAST, wide - n);
            }
            if (suits(work, h, wide, course.deepBehind(day, h))) {
                return h;
            }
        }
        return NONE;
    }

    private int lastSightDay() {
        int last = 0;
        for (int i = 0; i < sights.size; i++) {
            last = Math.max(last, sights.cell(i, DAY));
        }
        return last;
    }

    private boolean comesOutAsSeen(Course course) {
        for (int i = 0; i < sights.size; i++) {
            int hole = sights.cell(i, WHICH);
            if (!isHole(hole) || course.sightOf(sights.cell(i, DAY), hole) != sights.cell(i, SO_WIDE)) {
                return false;
            }
        }
        return true;
    }

    private void addToAlike(Course course, int day) {
        for (int h = 0; h < holes.items; h++) {
            alike[h * (MOST + 1) + course.sightOf(day, h)]++;
        }
    }

    private int greatestAlike(int hole) {
        int greatest = 0;
        for (int wide = 0; wide <= MOST; wide++) {
            greatest = Math.max(greatest, alike[hole * (MOST + 1) + wide]);
        }
        return greatest;
    }

    private int sixteenthsServed(Course course, int work, int day, int hole, int c) {
        int wide = course.wideBehind(day, hole);
        int deep = course.deepBehind(day, hole);
        int served = suits(work, hole, wide, deep) ? SIXTEENTHS - c : 0;
        return suits(work, hole, Math.min(MOST, wide + 1), deep) ? served + c : served;
    }

    private static int nextLot(int lot) {
        return 1103515245 * lot + 12345;
    }

    private static int lotOf(int lot, int m) {
        return m < 1 ? 0 : (lot >>> 16) % m;
    }

    /** The bytes of a text, and what they tell; with a fault they tell nothing. */
    private static final class Text {
        private final String shapes;
        private final int leastDeep;
        private final int leastLast;
        private final int[] bytes = new int[TEXT_BYTES];
        private final int[] figures = new int[HOLES * FIGURES];
        private int length = 0;
        private int fault = NONE;
        private int items = 0;

        private Text(String shapes, int leastDeep, int leastLast) {
            this.shapes = shapes;
            this.leastDeep = leastDeep;
            this.leastLast = leastLast;
        }

        private int figure(int item, int what) {
            return figures[item * FIGURES + what];
        }

        private int append(int b) {
            if (length < TEXT_BYTES) {
                bytes[length] = b;
                length++;
                parse();
            }
            return length;
        }

        private void shorten(int newLength) {
            length = newLength;
            parse();
        }

        private void parse() {
            fault = firstFault();
            items = fault == NONE ? (length + 1) / ITEM_BYTES : 0;
            for (int k = 0; k < items; k++) {
                figures[k * FIGURES + SHAPE] = shapes.indexOf((char) bytes[k * ITEM_BYTES]);
                for (int what = WIDE; what < FIGURES; what++) {
                    figures[k * FIGURES + what] = bytes[k * ITEM_BYTES + what] - '0';
                }
            }
        }

        /** A ninth item would begin beyond the last byte that a text may have: it needs no test of its own. */
        private int firstFault() {
            for (int i = 0; i < length; i++) {
                if (!goesOnAt(i)) {
                    return i;
                }
            }
            return length == 0 || length % ITEM_BYTES == FIGURES ? NONE : length;
        }

        private boolean goesOnAt(int i) {
            int b = bytes[i];
            switch (i % ITEM_BYTES) {
                case SHAPE: return shapes.indexOf((char) b) >= 0;
                case WIDE: return isFigureFrom(1, b);
                case DEEP: return isFigureFrom(leastDeep, b);
                case GROWS: return isFigureFrom(leastLast, b);
                default: return b == ';';
            }
        }

        private static boolean isFigureFrom(int least, int b) {
            return b >= '0' + least && b <= '9';
        }
    }

    /** Rows of numbers, in the order in which they were told. */
    private static final class Rows {
        private final int limit;
        private final int[] cells;
        private int size = 0;

        private Rows(int limit) {
            this.limit = limit;
            this.cells = new int[limit * COLUMNS];
        }

        private boolean isFull() {
            return size >= limit;
        }

        private int cell(int row, int column) {
            return cells[row * COLUMNS + column];
        }

        private int add(int a, int b, int c, int d) {
            if (size < limit) {
                int at = size * COLUMNS;
                cells[at] = a;
                cells[at + 1] = b;
                cells[at + 2] = c;
                cells[at + 3] = d;
                size++;
            }
            return size;
        }

        private int drop(int row) {
            if (isBelow(row, size)) {
                int from = (row + 1) * COLUMNS;
                System.arraycopy(cells, from, cells, from - COLUMNS, size * COLUMNS - from);
                size--;
            }
            return size;
        }

        private void clear() {
            size = 0;
        }

        private void takeAll(Rows from) {
            size = Math.min(from.size, limit);
            System.arraycopy(from.cells, 0, cells, 0, size * COLUMNS);
        }
    }

    /** All that is told to the bank. */
    private static final class Book {
        private final Rows loans;
        private final Rows fillings = new Rows(FILLINGS);
        private final Rows patches = new Rows(PATCHES);

        private Book(int mostLoans) {
            loans = new Rows(mostLoans);
        }

        private void takeAll(Book from) {
            loans.takeAll(from.loans);
            fillings.takeAll(from.fillings);
            patches.takeAll(from.patches);
        }
    }

    /** A hole as it is at some time of some day. */
    private static final class Hole {
        private int shape;
        private int wide;
        private int deep;
        private int grows;
        private int loan;
        private int daysOut;
        private int areaWhenLent;
        private boolean isFilled;

        private void begin(Text told, int item) {
            shape = told.figure(item, SHAPE);
            wide = told.figure(item, WIDE);
            deep = told.figure(item, DEEP);
            grows = told.figure(item, GROWS);
            loan = NONE;
            daysOut = 0;
            areaWhenLent = 0;
            isFilled = false;
        }

        private void lendBy(int newLoan) {
            loan = newLoan;
            daysOut = 0;
            areaWhenLent = wide * deep;
        }

        private void passDayOut() {
            daysOut++;
            if (grows == 0 || daysOut % grows != 0) {
                return;
            }
            if (shape != LONG && wide < MOST) {
                wide++;
            }
            if (shape == LONG && deep < MOST) {
                deep++;
            }
            if (shape == SQUARE && deep > LEAST) {
                deep--;
            }
        }
    }

    /** What comes of a book, day by day. */
    private static final class Course {
        private final Hole[] now = new Hole[HOLES];
        private final int[] wide = new int[DAYS * HOLES];
        private final int[] deep = new int[DAYS * HOLES];
        private final int[] loan = new int[DAYS * HOLES];
        /** Of each day, as bits: holes that were at the bank when patches were looked at; holes that are filled. */
        private final int[] patchable = new int[DAYS];
        private final int[] filled = new int[DAYS];
        private final int[] counted = new int[LOANS + DAYS];
        private final int[] breachDay = new int[LOANS + DAYS];
        private final int[] more = new int[LOANS + DAYS];
        private int holes = 0;

        private Course() {
            for (int h = 0; h < HOLES; h++) {
                now[h] = new Hole();
            }
        }

        private void follow(Text told, Book book, int lastDay) {
            holes = told.items;
            for (int h = 0; h < holes; h++) {
                now[h].begin(told, h);
            }
            Arrays.fill(counted, 0);
            Arrays.fill(breachDay, NONE);
            Arrays.fill(more, 0);
            for (int day = 0; day <= lastDay && day < DAYS; day++) {
                lendAll(day, book.loans);
                fillAll(day, book.fillings);
                patchAll(day, book.patches);
                patchable[day] = bitsAtBank();
                for (int h = 0; h < holes; h++) {
                    if (now[h].loan != NONE) {
                        passDayOut(day, now[h], book.loans);
                    }
                    note(day, h);
                }
                filled[day] = bitsFilled();
            }
        }

        private void lendAll(int day, Rows loans) {
            for (int l = 0; l < loans.size; l++) {
                int h = loans.cell(l, WHICH);
                if (loans.cell(l, DAY) == day && h < holes && now[h].loan == NONE) {
                    now[h].lendBy(l);
                    counted[l] = 1;
                }
            }
        }

        private void fillAll(int day, Rows fillings) {
            for (int f = 0; f < fillings.size; f++) {
                int h = fillings.cell(f, WHICH);
                if (fillings.cell(f, DAY) == day && h < holes && now[h].loan != NONE) {
                    now[h].isFilled = true;
                }
            }
        }

        private void patchAll(int day, Rows patches) {
            for (int p = 0; p < patches.size; p++) {
                int h = patches.cell(p, WHICH);
                if (patches.cell(p, DAY) == day && h < holes && now[h].loan == NONE) {
                    now[h].wide = Math.max(LEAST, now[h].wide - 1);
                }
            }
        }

        private void passDayOut(int day, Hole hole, Rows loans) {
            hole.passDayOut();
            int l = hole.loan;
            if (hole.daysOut < loans.cell(l, FOR_DAYS)) {
                return;
            }
            more[l] = hole.wide * hole.deep - hole.areaWhenLent;
            if (hole.isFilled) {
                breachDay[l] = day;
                hole.isFilled = false;
            }
            hole.loan = NONE;
        }

        private void note(int day, int h) {
            int at = day * HOLES + h;
            wide[at] = now[h].wide;
            deep[at] = now[h].deep;
            loan[at] = now[h].loan;
        }

        private int bitsAtBank() {
            int bits = 0;
            for (int h = 0; h < holes; h++) {
                if (now[h].loan == NONE) {
                    bits |= 1 << h;
                }
            }
            return bits;
        }

        private int bitsFilled() {
            int bits = 0;
            for (int h = 0; h < holes; h++) {
                if (now[h].isFilled) {
                    bits |= 1 << h;
                }
            }
            return bits;
        }

        private int wideBehind(int day, int hole) {
            return wide[day * HOLES + hole];
        }

        private int deepBehind(int day, int hole) {
            return deep[day * HOLES + hole];
        }

        private int loanBehind(int day, int hole) {
            return loan[day * HOLES + hole];
        }

        private boolean couldBePatched(int day, int hole) {
            return (patchable[day] >> hole & 1) == 1;
        }

        private boolean isOutBy(int day, int hole, int l) {
            return hole < holes && loanBehind(day, hole) == l;
        }

        /** What is seen of a hole: how wide it is; 0, where it is out. */
        private int sightOf(int day, int hole) {
            return loanBehind(day, hole) == NONE ? wideBehind(day, hole) : 0;
        }

        private int vaultBehind(int day) {
            int vault = 0;
            for (int h = 0; h < holes; h++) {
                if (loanBehind(day, h) == NONE) {
                    vault += wideBehind(day, h) * deepBehind(day, h);
                }
            }
            return vault;
        }

        private int countedFrom(int from, int end) {
            int n = 0;
            for (int l = from; l < end && l < LOANS + DAYS; l++) {
                n += counted[l];
            }
            return n;
        }
    }

    /** Holes for works, each for one at most, so that the worth of the works served is most. */
    private static final class Match {
        private static final int SETS = 1 << HOLES;

        private final int[] worth = new int[WORKS];
        private final int[] fits = new int[WORKS];
        /** Of works from the w-th on: the most worth that they can have when a set of holes is used already. */
        private final int[] most = new int[(WORKS + 1) * SETS];
        private int works = 0;

        private void begin(int newWorks) {
            works = newWorks;
        }

        private void set(int work, int newWorth, int holes) {
            worth[work] = newWorth;
            fits[work] = holes;
        }

        private int solve() {
            int useful = 0;
            for (int w = 0; w < works; w++) {
                useful |= fits[w];
            }
            // only holes that fit some work are ever used: their sets, from the fullest down, each a lesser number
            for (int used = useful; used > 0; used = (used - 1) & useful) {
                most[works * SETS + used] = 0;
            }
            most[works * SETS] = 0;
            for (int w = works - 1; w >= 0; w--) {
                for (int used = useful; used > 0; used = (used - 1) & useful) {
                    most[w * SETS + used] = mostFrom(w, used);
                }
                most[w * SETS] = mostFrom(w, 0);
            }
            return most[0];
        }

        private int mostFrom(int w, int used) {
            int answer = most[(w + 1) * SETS + used];
            int free = fits[w] & ~used;
            for (int h = 0; h < HOLES && free >> h != 0; h++) {
                if ((free >> h & 1) == 1) {
                    answer = Math.max(answer, worth[w] + most[(w + 1) * SETS + (used | 1 << h)]);
                }
            }
            return answer;
        }

        /** Walks the least row: for each work in turn the least hole with which the most can still be reached. */
        private int holeFor(int work) {
            int used = 0;
            for (int w = 0; w < works; w++) {
                int hole = leastHole(w, used);
                if (w == work) {
                    return hole;
                }
                if (hole != NONE) {
                    used |= 1 << hole;
                }
            }
            return NONE;
        }

        private int leastHole(int w, int used) {
            int free = fits[w] & ~used;
            for (int h = 0; h < HOLES; h++) {
                if ((free >> h & 1) == 1
                        && worth[w] + most[(w + 1) * SETS + (used | 1 << h)] == most[w * SETS + used]) {
                    return h;
                }
            }
            return NONE;
        }
    }

    /** A row of bytes, shorts or ints; the items are kept as ints that have been cut to the form. */
    private static final class Sheet {
        private final int[] items = new int[SHEET_ITEMS];
        private boolean isLost = true;
        private int form = 0;
        private int size = 0;

        private void begin(int newForm, int n) {
            isLost = false;
            form = newForm;
            size = n;
            Arrays.fill(items, 0);
        }

        /** The number of the finding by which an item may not be treated as of a form; 0: it may. */
        private int refusal(int asForm, int i) {
            if (isLost) {
                return NULL;
            }
            if (form != asForm) {
                return CAST;
            }
            return isBelow(i, size) ? 0 : INDEX;
        }

        private boolean hasRange(int from, int n) {
            return from >= 0 && n >= 0 && from <= size && n <= size - from;
        }

        private int item(int i) {
            return items[i];
        }

        private void put(int i, int v) {
            items[i] = form == 0 ? (byte) v : form == 1 ? (short) v : v;
        }
    }
}
