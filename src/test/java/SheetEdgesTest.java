/** The edges of sheets and findings, and of promises 12 and 29 to 36. */
public final class SheetEdgesTest {
    private static final int NONE = HoleBank.NONE, BAD = HoleBank.BAD;
    private static final int NULL = -11, INDEX = -12, CAST = -13, STORE = -14, SIZE = -15;
    private static final int MIN = Integer.MIN_VALUE, MAX = Integer.MAX_VALUE;
    private static final int[] NO_SHEETS = {-1, 4, MIN, MAX};
    private static final int[] NO_FORMS = {-1, 3, MIN, MAX};

    private static final Due due = new Due();

    public static void main(String[] args) {
        sheetsAreLostAtFirst();
        sheetsAreOfAForm();
        findings();
        findingsChangeNothing();
        readWhole();
        readAsLong();
        sheet();
        lose();
        lay();
        layLowestBits();
        get();
        copy();
        copyInItself();
        copyIndex();
        write();
        writeAsMany();
        count();
        digest();
        due.end();
    }

    private static void layAll(HoleBank x, int s, int form, int... values) {
        x.sheet(s, form, values.length);
        for (int i = 0; i < values.length; i++) x.lay(s, form, i, values[i]);
    }

    private static void itemsAre(HoleBank x, int s, int form, int... want) {
        for (int i = 0; i < want.length; i++) due.is("sheet " + s + ", item " + i, x.get(s, form, i), want[i]);
        due.is("sheet " + s + " has no more", x.get(s, form, want.length), MIN);
        due.is("sheet " + s + " has no more: index", x.count(8), 2);
    }

    private static void sheetsAreLostAtFirst() {
        due.says("SHEETS 0 .. 3 are LOST (at first)");
        for (int s = 0; s < 4; s++) {
            HoleBank x = new HoleBank();
            due.is("lose", x.lose(s), NULL);
            due.is("read", x.read(s), NULL);
            due.is("write", x.write(0, s), NULL);
            for (int form = 0; form < 3; form++) {
                due.is("lay", x.lay(s, form, 0, 0), NULL);
                due.is("get", x.get(s, form, 0), MIN);
            }
            due.is("copy", x.copy(s, 0, s, 0, 0), NULL);
            due.is("its own", x.sheet(s, 0, 1), 1);
            for (int t = 0; t < 4; t++) {
                if (t != s) due.is("another", x.lose(t), NULL);
            }
        }
        for (int s : NO_SHEETS) due.is("sheet " + s, new HoleBank().lose(s), BAD);
    }

    private static void sheetsAreOfAForm() {
        due.says("or a row of a FORM: 0 bytes, 1 shorts, 2 ints, of 0 to 60 items (0 at first)");
        for (int form = 0; form < 3; form++) {
            HoleBank x = new HoleBank();
            due.is("none", x.sheet(0, form, 0), 0);
            due.is("has no item", x.lay(0, form, 0, 1), INDEX);
            due.is("60", x.sheet(0, form, 60), 60);
            for (int i = 0; i < 60; i++) due.is("item " + i + " at first", x.get(0, form, i), 0);
            due.is("the last", x.lay(0, form, 59, 1), 1);
            due.is("beyond the last", x.lay(0, form, 60, 1), INDEX);
            due.is("61", x.sheet(0, form, 61), BAD);
            due.is("it is as it was", x.get(0, form, 59), 1);
            due.is("anew", x.sheet(0, form, 60), 60);
            due.is("0 at first", x.get(0, form, 59), 0);
            x.lay(0, form, 3, 5);
            x.lose(0);
            x.sheet(0, form, 4);
            due.is("lost and made anew: 0 at first", x.get(0, form, 3), 0);
            for (int other = 0; other < 3; other++) {
                if (other != form) due.is("as another form", x.lay(0, other, 0, 1), CAST);
            }
        }
    }

    private static void findings() {
        due.says("FINDINGS (answers -10 less the number; they change nothing but count() 8): 1 NULL: the SHEET is LOST; 2 INDEX:"
            + " there is no such item; 3 CAST: it has another FORM; 4 STORE: unlike FORMS; 5 SIZE: below 0.");
        HoleBank x = new HoleBank();
        due.is("before any", x.count(8), 0);
        due.is("null", x.lose(1), -11);
        due.is("its number", x.count(8), 1);
        x.sheet(0, 0, 1);
        x.sheet(1, 1, 1);
        due.is("what goes well does not change it", x.count(8), 1);
        due.is("index", x.lay(0, 0, 1, 0), -12);
        due.is("its number", x.count(8), 2);
        due.is("cast", x.lay(0, 1, 0, 0), -13);
        due.is("its number", x.count(8), 3);
        due.is("store", x.copy(0, 0, 1, 0, 1), -14);
        due.is("its number", x.count(8), 4);
        due.is("size", x.sheet(0, 0, -1), -15);
        due.is("its number", x.count(8), 5);
        x.lay(4, 0, 0, 0);
        x.undo(0);
        due.is("other refusals do not change it", x.count(8), 5);
        due.is("the latest", x.lose(3), -11);
        due.is("its number", x.count(8), 1);
    }

    private static HoleBank ready() {
        HoleBank x = Due.bank("r551;s440", "r553");
        x.loan(3, 0, 0, 9);
        layAll(x, 0, 0, 1, 2, 3);
        layAll(x, 1, 1, 4, 5);
        return x;
    }

    private static void findingsChangeNothing() {
        due.says("they change nothing but count() 8");
        HoleBank x = ready();
        x.read(2);
        x.lose(3);
        x.write(0, 2);
        x.sheet(0, 2, -1);
        x.sheet(2, 2, MIN);
        x.lay(0, 0, 3, 9);
        x.lay(0, 0, -1, 9);
        x.lay(1, 0, 0, 9);
        x.get(0, 1, 0);
        x.copy(0, 0, 1, 0, 1);
        x.copy(0, 1, 0, 0, 3);
        x.copy(0, 0, 2, 0, 1);
        due.is("the digest", x.digest(), ready().digest());
        itemsAre(x, 0, 0, 1, 2, 3);
        itemsAre(x, 1, 1, 4, 5);
        due.is("sheet 2 is still lost", x.lose(2), NULL);
        due.is("sheet 3 is still lost", x.lose(3), NULL);
    }

    private static void readWhole() {
        due.says("LOANS from a SHEET: its items, four for each, as many as are whole");
        for (int n = 0; n <= 60; n++) {
            HoleBank x = new HoleBank();
            x.sheet(0, 2, n);
            for (int i = 3; i < n; i += 4) x.lay(0, 2, i, 1);
            due.is("of " + n + " items", x.read(0), Math.min(12, n / 4));
            due.is("loans", x.count(4), Math.min(12, n / 4));
        }
    }

    private static void readAsLong() {
        due.says("as many as are whole, as long as each may be: how many. BAD; NULL.");
        HoleBank x = Due.bank("r550;r550;r550;r550;r550;r550;r550;r550", "");
        for (int s : NO_SHEETS) due.is("sheet " + s, x.read(s), BAD);
        due.is("lost", x.read(0), NULL);
        int[][] wrong = {
            {-1, 0, 0, 1}, {40, 0, 0, 1}, {0, -1, 0, 1}, {0, 8, 0, 1}, {0, 0, -1, 1}, {0, 0, 6, 1}, {0, 0, 0, 0}, {0, 0, 0, 10}
        };
        for (int[] row : wrong) {
            for (int form = 0; form < 3; form++) {
                HoleBank y = new HoleBank();
                layAll(y, 3, form, 39, 7, 5, 9, row[0], row[1], row[2], row[3], 0, 0, 0, 1);
                due.is("up to one that may not be", y.read(3), 1);
                due.is("loans", y.count(4), 1);
                layAll(y, 3, form, row);
                due.is("the first may not be", y.read(3), 0);
            }
        }
        layAll(x, 0, 0, 2, 7, 5, 3, 0, 0, 0, 1);
        due.is("two", x.read(0), 2);
        due.is("as they are laid", x.is(3, 7, 2), 5);
        due.is("as they are laid", x.is(4, 7, 2), NONE);
        due.is("the second", x.came(1, 0), 1);
        due.is("the sheet stays", x.read(0), 2);
        for (int n = 4; n < 11; n++) x.loan(39, 0, 0, 1);
        due.is("one more, then it is full", x.read(0), 1);
        due.is("full", x.read(0), 0);
        due.is("full is no finding", x.count(8), 1);
        due.is("loans", x.count(4), 12);
        layAll(x, 1, 2, 256, 0, 0, 1);
        due.is("an int is not cut", x.read(1), 0);
    }

    private static void sheet() {
        due.says("A SHEET is a new row of a FORM with n items: n. BAD: SHEET, FORM, above 60; SIZE.");
        HoleBank x = new HoleBank();
        for (int s : NO_SHEETS) {
            due.is("sheet " + s, x.sheet(s, 0, 1), BAD);
            due.is("sheet " + s + ", and below 0", x.sheet(s, 0, -1), BAD);
        }
        for (int form : NO_FORMS) {
            due.is("form " + form, x.sheet(0, form, 1), BAD);
            due.is("form " + form + ", and below 0", x.sheet(0, form, -1), BAD);
        }
        for (int n : new int[] {61, MAX}) due.is("of " + n, x.sheet(0, 0, n), BAD);
        due.is("no finding so far", x.count(8), 0);
        for (int n : new int[] {-1, MIN}) due.is("of " + n, x.sheet(0, 0, n), SIZE);
        due.is("all are still lost", x.lose(0), NULL);
        for (int s = 0; s < 4; s++) {
            for (int form = 0; form < 3; form++) {
                due.is("of none", x.sheet(s, form, 0), 0);
                due.is("of 60", x.sheet(s, form, 60), 60);
            }
        }
    }

    private static void lose() {
        due.says("It is LOST: how many items it had. BAD; NULL.");
        HoleBank x = new HoleBank();
        for (int s : NO_SHEETS) due.is("sheet " + s, x.lose(s), BAD);
        due.is("bad is no finding", x.count(8), 0);
        for (int n : new int[] {0, 1, 60}) {
            x.sheet(3, 2, n);
            due.is("of " + n, x.lose(3), n);
            due.is("again", x.lose(3), NULL);
            due.is("it is lost", x.lay(3, 2, 0, 0), NULL);
        }
    }

    private static void lay() {
        due.says("Item i, treated as of a FORM, becomes v (the lowest bits that it has): 1. BAD; NULL; CAST; INDEX.");
        HoleBank x = new HoleBank();
        for (int s : NO_SHEETS) due.is("sheet " + s, x.lay(s, 0, 0, 0), BAD);
        for (int form : NO_FORMS) due.is("lost, and form " + form, x.lay(0, form, 0, 0), BAD);
        due.is("lost, and item -1", x.lay(0, 0, -1, 0), NULL);
        x.sheet(0, 1, 2);
        for (int form : NO_FORMS) due.is("form " + form, x.lay(0, form, 0, 0), BAD);
        for (int form : NO_FORMS) due.is("form " + form + ", and item 2", x.lay(0, form, 2, 0), BAD);
        due.is("cast", x.lay(0, 0, 0, 0), CAST);
        due.is("cast", x.lay(0, 2, 1, 0), CAST);
        due.is("cast, and item 2", x.lay(0, 0, 2, 0), CAST);
        due.is("cast, and item -1", x.lay(0, 2, -1, 0), CAST);
        for (int i : new int[] {-1, 2, MIN, MAX}) due.is("item " + i, x.lay(0, 1, i, 0), INDEX);
        due.is("the first", x.lay(0, 1, 0, 7), 1);
        due.is("the last", x.lay(0, 1, 1, 8), 1);
        itemsAre(x, 0, 1, 7, 8);
    }

    private static void layLowestBits() {
        due.says("becomes v (the lowest bits that it has)");
        int[] given = {127, 128, 255, 256, -128, -129, 32767, 32768, 65535, 65536, -32768, -32769, MAX, MIN};
        int[] bytes = {127, -128, -1, 0, -128, 127, -1, 0, -1, 0, 0, -1, -1, 0};
        int[] shorts = {127, 128, 255, 256, -128, -129, 32767, -32768, -1, 0, -32768, 32767, -1, 0};
        HoleBank x = new HoleBank();
        layAll(x, 0, 0, given);
        layAll(x, 1, 1, given);
        layAll(x, 2, 2, given);
        itemsAre(x, 0, 0, bytes);
        itemsAre(x, 1, 1, shorts);
        itemsAre(x, 2, 2, given);
    }

    private static void getFinds(HoleBank x, int s, int form, int i, int finding) {
        due.is("get(" + s + ", " + form + ", " + i + ")", x.get(s, form, i), MIN);
        due.is("and count() 8 then", x.count(8), finding);
    }

    private static void get() {
        due.says("Item i of it. BAD: the least int; so are NULL, CAST, INDEX (count() 8 tells).");
        HoleBank x = new HoleBank();
        for (int s : NO_SHEETS) getFinds(x, s, 0, 0, 0);
        for (int form : NO_FORMS) getFinds(x, 0, form, 0, 0);
        getFinds(x, 0, 0, -1, 1);
        layAll(x, 0, 2, MIN, MAX);
        getFinds(x, 0, 2, 0, 1);
        due.is("the last", x.get(0, 2, 1), MAX);
        getFinds(x, 0, 2, 2, 2);
        getFinds(x, 0, 1, 0, 3);
        getFinds(x, 0, 2, -1, 2);
        getFinds(x, 0, 0, 2, 3);
        getFinds(x, 0, 0, -1, 3);
        getFinds(x, 0, 2, MAX, 2);
        getFinds(x, 0, 3, 0, 2);
        getFinds(x, 4, 2, 0, 2);
        getFinds(x, 1, 0, 0, 1);
        getFinds(x, 0, 2, MIN, 2);
    }

    private static void copy() {
        due.says("BAD: the SHEETS; NULL: s, t; STORE; INDEX: below 0, not so many.");
        HoleBank x = new HoleBank();
        x.sheet(2, 0, 3);
        for (int s : NO_SHEETS) {
            due.is("from " + s, x.copy(s, 0, 2, 0, 1), BAD);
            due.is("to " + s, x.copy(2, 0, s, 0, 1), BAD);
            due.is("from lost to " + s, x.copy(0, 0, s, 0, 1), BAD);
            due.is("from " + s + " to lost", x.copy(s, 0, 0, 0, 1), BAD);
        }
        due.is("no finding so far", x.count(8), 0);
        due.is("from lost", x.copy(0, 0, 2, 0, 1), NULL);
        due.is("to lost", x.copy(2, 0, 0, 0, 1), NULL);
        due.is("both", x.copy(0, 0, 1, 0, 0), NULL);
        due.is("to lost, and below 0", x.copy(2, -1, 0, 0, 1), NULL);
        x.sheet(3, 1, 3);
        due.is("unlike", x.copy(2, 0, 3, 0, 1), STORE);
        due.is("unlike", x.copy(3, 0, 2, 0, 1), STORE);
        due.is("unlike, none to copy", x.copy(2, 0, 3, 0, 0), STORE);
        due.is("unlike, and below 0", x.copy(2, 0, 3, -1, 1), STORE);
        due.is("unlike, and too many", x.copy(2, 0, 3, 0, 4), STORE);
    }

    private static void copyInItself() {
        due.says("n items of SHEET s, from i on, come to SHEET t (perhaps s, as they were), from j on: 1.");
        for (int form = 0; form < 3; form++) {
            HoleBank x = new HoleBank();
            layAll(x, 0, form, 1, 2, 3, 4, 5);
            due.is("upwards", x.copy(0, 0, 0, 1, 4), 1);
            itemsAre(x, 0, form, 1, 1, 2, 3, 4);
            due.is("downwards", x.copy(0, 2, 0, 0, 3), 1);
            itemsAre(x, 0, form, 2, 3, 4, 3, 4);
            due.is("onto itself", x.copy(0, 0, 0, 0, 5), 1);
            itemsAre(x, 0, form, 2, 3, 4, 3, 4);
            layAll(x, 1, form, 7, 7, 7);
            due.is("to another", x.copy(0, 1, 1, 1, 2), 1);
            itemsAre(x, 1, form, 7, 3, 4);
            itemsAre(x, 0, form, 2, 3, 4, 3, 4);
            x.lay(1, form, 1, 9);
            itemsAre(x, 0, form, 2, 3, 4, 3, 4);
        }
    }

    private static void copyIndex() {
        due.says("INDEX: below 0, not so many.");
        HoleBank x = new HoleBank();
        layAll(x, 0, 2, 1, 2, 3, 4, 5);
        layAll(x, 1, 2, 6, 7, 8);
        int[][] wrong = {
            {-1, 0, 1}, {0, -1, 1}, {0, 0, -1}, {MIN, 0, 1}, {0, MIN, 1}, {0, 0, MIN}, {-1, 0, 0}, {0, -1, 0},
            {3, 0, 3}, {5, 0, 1}, {6, 0, 0}, {0, 0, 4}, {0, 1, 3}, {0, 3, 1}, {0, 4, 0}, {MAX, 0, 1}, {0, MAX, 1},
            {0, 0, MAX}, {MAX, MAX, MAX}, {1, 1, MAX}, {MAX, 0, 0}, {5, 3, -1}, {MIN, MIN, MIN}, {3, 0, MIN}
        };
        for (int[] w : wrong) {
            due.is("from " + w[0] + " to " + w[1] + ", " + w[2], x.copy(0, w[0], 1, w[1], w[2]), INDEX);
        }
        itemsAre(x, 1, 2, 6, 7, 8);
        due.is("none", x.copy(0, 0, 1, 0, 0), 1);
        due.is("none, at the ends", x.copy(0, 5, 1, 3, 0), 1);
        itemsAre(x, 1, 2, 6, 7, 8);
        due.is("as many as there are", x.copy(0, 2, 1, 0, 3), 1);
        itemsAre(x, 1, 2, 3, 4, 5);
        due.is("the last", x.copy(0, 0, 1, 2, 1), 1);
        itemsAre(x, 1, 2, 3, 4, 1);
        x.sheet(2, 2, 0);
        due.is("of an empty one", x.copy(2, 0, 2, 0, 0), 1);
        due.is("of an empty one, one", x.copy(2, 0, 2, 0, 1), INDEX);
        x.sheet(2, 2, 60);
        x.sheet(3, 2, 60);
        due.is("all 60", x.copy(2, 0, 3, 0, 60), 1);
        due.is("61", x.copy(2, 0, 3, 0, 61), INDEX);
    }

    private static void write() {
        due.says("comes to a SHEET from item 0 on, as many as there are items and HOLES: how many. BAD; NULL.");
        HoleBank x = Due.bank("r110", "");
        for (int s : NO_SHEETS) due.is("sheet " + s, x.write(0, s), BAD);
        for (int day : new int[] {-1, 40, MIN, MAX}) due.is("lost, and day " + day, x.write(day, 0), BAD);
        due.is("bad is no finding", x.count(8), 0);
        due.is("lost", x.write(0, 0), NULL);
        x.sheet(0, 0, 2);
        for (int day : new int[] {-1, 40, MIN, MAX}) due.is("day " + day, x.write(day, 0), BAD);
        due.is("day 39", x.write(39, 0), 1);
        itemsAre(x, 0, 0, 1, 0);
    }

    private static void writeAsMany() {
        due.says("How WIDE HOLES 0 on are behind a DAY (0: out) comes to a SHEET from item 0 on");
        for (int form = 0; form < 3; form++) {
            HoleBank x = Due.bank("r151;r251;r351;r451;r551;r651;r751;r951", "");
            x.loan(2, 0, 0, 2);
            x.loan(2, 7, 0, 1);
            layAll(x, 0, form, 7, 7, 7, 7, 7, 7, 7, 7, 7, 7);
            due.is("eight holes", x.write(1, 0), 8);
            itemsAre(x, 0, form, 1, 2, 3, 4, 5, 6, 7, 9, 7, 7);
            due.is("hole 0 is out", x.write(2, 0), 8);
            itemsAre(x, 0, form, 0, 2, 3, 4, 5, 6, 7, 9, 7, 7);
            due.is("hole 0 is back", x.write(3, 0), 8);
            itemsAre(x, 0, form, 3, 2, 3, 4, 5, 6, 7, 9, 7, 7);
            x.sheet(1, form, 3);
            due.is("three items", x.write(1, 1), 3);
            itemsAre(x, 1, form, 1, 2, 3);
            x.sheet(1, form, 0);
            due.is("no items", x.write(1, 1), 0);
            x.wipe(0);
            due.is("no holes", x.write(1, 0), 0);
            itemsAre(x, 0, form, 3, 2, 3, 4, 5, 6, 7, 9, 7, 7);
        }
    }

    private static void count() {
        due.says("0 HOLES, 1 WORKS, 2, 3 bytes of texts, 4 LOANS, 5 LOANS that count, 6 FILLINGS and PATCHES together, 7 SEEN,"
            + " 8 the number of the latest FINDING (0 before any). BAD.");
        HoleBank x = new HoleBank();
        for (int what : new int[] {-1, 9, MIN, MAX}) due.is("what " + what, x.count(what), BAD);
        countsAre(x, 0, 0, 0, 0, 0, 0, 0, 0, 0);
        Due.type(x, 0, "r110;r110;r110;r110;r110;r110;r110;r110");
        Due.type(x, 1, "a111;a111;a111;a111;a111;a111;a111;a111");
        for (int n = 0; n < 12; n++) x.loan(n % 6, 0, 0, 1);
        for (int n = 0; n < 8; n++) {
            x.fill(0, 0);
            x.patch(0, 0);
            x.seen(0, 0, 0);
        }
        x.sheet(0, 0, -1);
        countsAre(x, 8, 8, 39, 39, 12, 6, 16, 8, 5);
        x.undo(0);
        x.undo(1);
        x.back(0);
        x.back(1);
        x.forget();
        x.lose(0);
        countsAre(x, 0, 0, 38, 38, 11, 0, 15, 0, 1);
    }

    private static void countsAre(HoleBank x, int... want) {
        for (int what = 0; what < want.length; what++) due.is("count(" + what + ")", x.count(what), want[what]);
    }

    private static void digest() {
        due.says("run(7, 20, 0 and 1); as longs that wrap");
        due.is("a new object", new HoleBank().digest(), digestOf(new HoleBank()));
        HoleBank x = fullBank();
        due.is("a full one", x.digest(), digestOf(x));
        for (int kind = 0; kind < 40; kind++) {
            HoleBank other = bankOfAKind(kind);
            due.is("kind " + kind, other.digest(), digestOf(other));
        }
        HoleBank eased = fullBank();
        eased.ease(0);
        due.is("with another ease", eased.digest(), digestOf(eased));
        HoleBank y = fullBank();
        y.sheet(0, 0, 60);
        y.sheet(0, 0, -1);
        y.ease(0);
        due.holds("ease is in it", y.digest() != x.digest());
        y.ease(2);
        due.is("sheets and findings are not", y.digest(), x.digest());
    }

    /** Banks that are unlike on days next to those of the digest, and of which holes and works are not as many. */
    private static HoleBank bankOfAKind(int kind) {
        String holes = "r951;s841;l291;r621;s913;r711", works = "a715;a824;r631;s707;a901;r618";
        HoleBank x = Due.bank(holes.substring(0, 5 * (kind % 6) + 4), works.substring(0, 5 * (kind / 6 % 6) + 4));
        for (int l = 0; l < 6; l++) x.loan((kind + 7 * l) % 40, (kind + l) % 6, l, 1 + (kind + 2 * l) % 9);
        for (int day : new int[] {0, 3, 4, 10, 38, 39}) x.loan(day, kind % 6, kind % 6, day == 39 ? 2 : 1);
        for (int k = 0; k < 8; k++) x.patch(3 * k + kind % 3, (kind + k) % 4);
        for (int k = 0; k < 4; k++) x.fill((kind + 7 * k) % 40, (kind + k) % 6);
        return x;
    }

    private static HoleBank fullBank() {
        HoleBank x = Due.bank("r352;s441;l291;r920;s213;r119;l991;s111", "r339;a457;l295;s408;a111;a901;r555;l129");
        for (int l = 0; l < 12; l++) x.loan(3 * l, l % 8, l % 6, 9);
        for (int k = 0; k < 8; k++) {
            x.fill(3 * k, k);
            x.patch(k + 1, k);
        }
        x.seen(5, 1, 0);
        return x;
    }

    private static long digestOf(HoleBank x) {
        long h = 17;
        for (int k = 0; k <= 7; k++) h = 31 * h + x.count(k);
        for (int t = 0; t < 2; t++) h = 31 * h + x.fault(t);
        for (int k = 0; x.hole(k, 0) != BAD; k++) {
            for (int what = 0; what <= 3; what++) h = 31 * h + x.hole(k, what);
            for (int what = 0; what <= 2; what++) h = 31 * h + x.is(5, k, what);
            for (int what = 0; what <= 2; what++) h = 31 * h + x.is(39, k, what);
            h = 31 * h + x.serves(5, k);
        }
        for (int k = 0; x.work(k, 0) != BAD; k++) {
            for (int what = 0; what <= 3; what++) h = 31 * h + x.work(k, what);
            for (int i = NONE; i <= 0; i++) h = 31 * h + x.mend(k, 3, i);
            for (int what = 0; what <= 1; what++) h = 31 * h + x.moths(5, 9, k, what);
        }
        for (int k = 0; x.came(k, 0) != -1002; k++) {
            for (int what = 0; what <= 2; what++) h = 31 * h + x.came(k, what);
        }
        for (int day : new int[] {0, 5, 39}) {
            for (int what = 0; what <= 1; what++) h = 31 * h + x.behind(day, what);
            for (int i = NONE; i <= 0; i++) h = 31 * h + x.best(day, i);
            for (int what = 0; what <= 1; what++) h = 31 * h + x.call(day, what);
            h = 31 * h + x.look(day);
        }
        for (int p = 0; p <= 5; p++) h = 31 * h + x.breaches(p);
        h = 31 * h + x.first();
        for (int what = 0; what <= 1; what++) h = 31 * h + x.never(what);
        for (int what = 0; what <= 1; what++) h = 31 * h + x.run(7, 20, what);
        return h;
    }
}
