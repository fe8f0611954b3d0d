/** Each promise of the document by itself: ordinary inputs, the edges, wrong inputs. The answers are made by hand. */
public final class PromiseTest {
    private static final int NONE = HoleBank.NONE, BAD = HoleBank.BAD, NOT = HoleBank.NOT, FULL = HoleBank.FULL;
    private static final int NULL = -11, INDEX = -12, CAST = -13, STORE = -14, SIZE = -15;
    private static final int MIN = Integer.MIN_VALUE, MAX = Integer.MAX_VALUE;

    private static final Due due = new Due();

    public static void main(String[] args) {
        newObject();
        type();
        wipe();
        undo();
        fault();
        hole();
        work();
        loan();
        fill();
        patch();
        back();
        read();
        ease();
        is();
        behind();
        came();
        breaches();
        first();
        serves();
        best();
        mend();
        call();
        seen();
        forget();
        never();
        look();
        moths();
        run();
        sheet();
        lose();
        lay();
        get();
        copy();
        write();
        count();
        digest();
        due.end();
    }

    private static void newObject() {
        HoleBank x = new HoleBank();
        for (int what = 0; what <= 8; what++) due.is("1: count(" + what + ")", x.count(what), 0);
        for (int s = 0; s < 4; s++) due.is("1: lose(" + s + ")", x.lose(s), NULL);
        due.is("1: ease at first", x.ease(2), 2);
        due.is("1: another object is its own", new HoleBank().count(8), 0);
    }

    private static void type() {
        HoleBank x = new HoleBank();
        due.is("2: text -1", x.type(-1, 0), BAD);
        due.is("2: text 2", x.type(2, 0), BAD);
        due.is("2: byte -1", x.type(0, -1), BAD);
        due.is("2: byte 256", x.type(0, 256), BAD);
        due.is("2: byte 255", x.type(0, 255), 1);
        for (int n = 2; n <= 39; n++) due.is("2: byte " + n, x.type(0, 0), n);
        due.is("2: a 40th", x.type(0, 0), FULL);
        due.is("2: bad ahead of full", x.type(0, 256), BAD);
        due.is("2: the other text is its own", x.type(1, 0), 1);
        due.is("2: bytes", x.count(2), 39);
    }

    private static void wipe() {
        HoleBank x = Due.bank("r111", "a111;a111");
        due.is("3: text 2", x.wipe(2), BAD);
        due.is("3: text -1", x.wipe(-1), BAD);
        due.is("3: is(0, 0, 0) ahead", x.is(0, 0, 0), 1);
        due.is("3: wipe(0)", x.wipe(0), 4);
        due.is("3: holes", x.count(0), 0);
        due.is("3: is(0, 0, 0)", x.is(0, 0, 0), BAD);
        due.is("3: works stay", x.count(1), 2);
        due.is("3: again", x.wipe(0), 0);
        due.is("3: wipe(1)", x.wipe(1), 9);
    }

    private static void undo() {
        HoleBank x = Due.bank("r11", "");
        due.is("4: text 2", x.undo(2), BAD);
        due.is("4: text -1", x.undo(-1), BAD);
        due.is("4: empty", x.undo(1), NOT);
        x.type(0, 'x');
        due.is("4: undo(0)", x.undo(0), 3);
        x.type(0, '2');
        due.is("4: the rest is as it was", x.hole(0, 3), 2);
        x.loan(0, 0, 0, 9);
        due.is("4: it grows", x.is(1, 0, 0), 2);
        x.undo(0);
        x.type(0, '1');
        due.is("4: now faster", x.is(1, 0, 0), 3);
        due.is("4: undo(0)", x.undo(0), 3);
        due.is("4: undo(0)", x.undo(0), 2);
        due.is("4: undo(0)", x.undo(0), 1);
        due.is("4: undo(0)", x.undo(0), 0);
        due.is("4: undo(0)", x.undo(0), NOT);
    }

    private static void fault() {
        due.is("5: text 2", new HoleBank().fault(2), BAD);
        due.is("5: text -1", new HoleBank().fault(-1), BAD);
        holeFault("", NONE);
        holeFault("r", 1);
        holeFault("r1", 2);
        holeFault("r11", 3);
        holeFault("r110", NONE);
        holeFault("l999", NONE);
        holeFault("s119;", 5);
        holeFault("s119;s", 6);
        holeFault("s119;s119", NONE);
        holeFault("a110", 0);
        holeFault(";", 0);
        holeFault("R110", 0);
        holeFault("r010", 1);
        holeFault("rr10", 1);
        holeFault("r100", 2);
        holeFault("r11:", 3);
        holeFault("r11/", 3);
        holeFault("r110,", 4);
        holeFault("r1100", 4);
        holeFault("r110;;", 5);
        holeFault("r110;r110;r110;r110;r110;r110;r110;r110", NONE);
        holeFault("r110;r110;r110;r110;r110;r110;r110;r11;", 38);
        workFault("", NONE);
        workFault("a109", NONE);
        workFault("r991;s991;l991;a101", NONE);
        workFault("a009", 1);
        workFault("a100", 3);
        workFault("a10", 3);
        workFault("b101", 0);
        workFault("a1011", 4);
        workFault("a101;", 5);
        HoleBank x = Due.bank("r110;q", "");
        due.is("5: with a fault as if empty", x.count(0), 0);
        due.is("5: its bytes stay", x.count(2), 6);
    }

    private static void holeFault(String text, int want) {
        due.is("5: fault of holes " + text, Due.bank(text, "").fault(0), want);
    }

    private static void workFault(String text, int want) {
        due.is("5: fault of works " + text, Due.bank("", text).fault(1), want);
    }

    private static void hole() {
        HoleBank x = Due.bank("r123;s456;l780", "");
        due.is("6: shape of r", x.hole(0, 0), 0);
        due.is("6: shape of s", x.hole(1, 0), 1);
        due.is("6: shape of l", x.hole(2, 0), 2);
        due.is("6: wide", x.hole(1, 1), 4);
        due.is("6: deep", x.hole(1, 2), 5);
        due.is("6: grows", x.hole(1, 3), 6);
        due.is("6: grows never", x.hole(2, 3), 0);
        due.is("6: no such hole", x.hole(3, 0), BAD);
        due.is("6: hole -1", x.hole(-1, 0), BAD);
        due.is("6: what -1", x.hole(0, -1), BAD);
        due.is("6: what 4", x.hole(0, 4), BAD);
        x.loan(0, 0, 0, 9);
        due.is("6: as told, not as grown", x.hole(0, 1), 1);
    }

    private static void work() {
        HoleBank x = Due.bank("", "r123;s456;l789;a101");
        for (int w = 0; w < 4; w++) due.is("7: shape " + w, x.work(w, 0), w);
        due.is("7: wide", x.work(1, 1), 4);
        due.is("7: deep", x.work(1, 2), 5);
        due.is("7: deep 0", x.work(3, 2), 0);
        due.is("7: worth", x.work(1, 3), 6);
        due.is("7: no such work", x.work(4, 0), BAD);
        due.is("7: work -1", x.work(-1, 0), BAD);
        due.is("7: what -1", x.work(0, -1), BAD);
        due.is("7: what 4", x.work(0, 4), BAD);
    }

    private static void loan() {
        HoleBank x = new HoleBank();
        due.is("8: day -1", x.loan(-1, 0, 0, 1), BAD);
        due.is("8: day 40", x.loan(40, 0, 0, 1), BAD);
        due.is("8: hole -1", x.loan(0, -1, 0, 1), BAD);
        due.is("8: hole 8", x.loan(0, 8, 0, 1), BAD);
        due.is("8: person -1", x.loan(0, 0, -1, 1), BAD);
        due.is("8: person 6", x.loan(0, 0, 6, 1), BAD);
        due.is("8: days 0", x.loan(0, 0, 0, 0), BAD);
        due.is("8: days 10", x.loan(0, 0, 0, 10), BAD);
        due.is("8: the least", x.loan(0, 0, 0, 1), 1);
        due.is("8: the most", x.loan(39, 7, 5, 9), 2);
        for (int n = 3; n <= 12; n++) due.is("8: loan " + n, x.loan(0, 0, 0, 1), n);
        due.is("8: a 13th", x.loan(0, 0, 0, 1), FULL);
        due.is("8: bad ahead of full", x.loan(0, 0, 0, 10), BAD);
        due.is("8: loans", x.count(4), 12);
    }

    private static void fill() {
        HoleBank x = new HoleBank();
        due.is("9: day -1", x.fill(-1, 0), BAD);
        due.is("9: day 40", x.fill(40, 0), BAD);
        due.is("9: hole -1", x.fill(0, -1), BAD);
        due.is("9: hole 8", x.fill(0, 8), BAD);
        for (int n = 1; n <= 8; n++) due.is("9: filling " + n, x.fill(39, 7), n);
        due.is("9: a 9th", x.fill(0, 0), FULL);
        due.is("9: bad ahead of full", x.fill(40, 0), BAD);
        due.is("9: patches are others", x.patch(0, 0), 1);
    }

    private static void patch() {
        HoleBank x = new HoleBank();
        due.is("10: day -1", x.patch(-1, 0), BAD);
        due.is("10: day 40", x.patch(40, 0), BAD);
        due.is("10: hole -1", x.patch(0, -1), BAD);
        due.is("10: hole 8", x.patch(0, 8), BAD);
        for (int n = 1; n <= 8; n++) due.is("10: patch " + n, x.patch(39, 7), n);
        due.is("10: a 9th", x.patch(0, 0), FULL);
        due.is("10: bad ahead of full", x.patch(40, 0), BAD);
        due.is("10: fillings are others", x.fill(0, 0), 1);
    }

    private static void back() {
        HoleBank x = Due.bank("r550", "");
        due.is("11: what -1", x.back(-1), BAD);
        due.is("11: what 3", x.back(3), BAD);
        for (int what = 0; what < 3; what++) due.is("11: none of " + what, x.back(what), NOT);
        x.loan(0, 0, 1, 2);
        x.loan(3, 0, 2, 2);
        x.fill(0, 0);
        x.fill(3, 0);
        x.patch(2, 0);
        x.patch(2, 0);
        due.is("11: who, ahead", x.is(3, 0, 2), 2);
        due.is("11: back(0)", x.back(0), 1);
        due.is("11: who", x.is(3, 0, 2), NONE);
        due.is("11: the one ahead of it stays", x.is(0, 0, 2), 1);
        due.is("11: filled, ahead", x.came(0, 1), 1);
        due.is("11: back(1)", x.back(1), 1);
        due.is("11: back(1)", x.back(1), 0);
        due.is("11: filled", x.came(0, 1), 0);
        due.is("11: wide, ahead", x.is(2, 0, 0), 3);
        due.is("11: back(2)", x.back(2), 1);
        due.is("11: wide", x.is(2, 0, 0), 4);
        due.is("11: back(1)", x.back(1), NOT);
    }

    private static void read() {
        HoleBank x = Due.bank("r111", "");
        due.is("12: sheet -1", x.read(-1), BAD);
        due.is("12: sheet 4", x.read(4), BAD);
        due.is("12: lost", x.read(3), NULL);
        due.is("12: its finding", x.count(8), 1);
        x.sheet(0, 0, 0);
        due.is("12: no items", x.read(0), 0);
        x.sheet(0, 0, 11);
        layAll(x, 0, 0, 1, 0, 2, 3, 5, 0, 4, 1, 9, 0, 0);
        due.is("12: as many as are whole", x.read(0), 2);
        due.is("12: who on day 1", x.is(1, 0, 2), 2);
        due.is("12: who on day 3", x.is(3, 0, 2), NONE);
        due.is("12: came(1, 0)", x.came(1, 0), 1);
        due.is("12: more, not instead", x.read(0), 2);
        due.is("12: loans", x.count(4), 4);
        x.sheet(1, 2, 12);
        layAll(x, 1, 2, 0, 0, 0, 1, 40, 0, 0, 1, 0, 0, 0, 1);
        due.is("12: until one may not be", x.read(1), 1);
        x.sheet(1, 1, 60);
        for (int i = 3; i < 60; i += 4) x.lay(1, 1, i, 1);
        due.is("12: until it is full", x.read(1), 7);
        due.is("12: full", x.read(1), 0);
        due.is("12: loans", x.count(4), 12);
        HoleBank y = new HoleBank();
        y.sheet(0, 2, 4);
        layAll(y, 0, 2, 0, 0, 0, 256 + 1);
        due.is("12: ints are whole ints", y.read(0), 0);
        y.sheet(0, 0, 4);
        layAll(y, 0, 0, 0, 0, 0, 256 + 1);
        due.is("12: bytes are cut", y.read(0), 1);
    }

    private static void layAll(HoleBank x, int s, int form, int... values) {
        for (int i = 0; i < values.length; i++) x.lay(s, form, i, values[i]);
    }

    private static void ease() {
        HoleBank x = Due.bank("r550", "r355;r451;r551");
        due.is("13: -1", x.ease(-1), BAD);
        due.is("13: 9", x.ease(9), BAD);
        due.is("13: with 2", x.serves(0, 0), 7);
        due.is("13: ease(1)", x.ease(1), 2);
        due.is("13: with 1", x.serves(0, 0), 6);
        due.is("13: ease(0)", x.ease(0), 1);
        due.is("13: with 0", x.serves(0, 0), 4);
        due.is("13: ease(8)", x.ease(8), 0);
        due.is("13: ease(8)", x.ease(8), 8);
    }

    private static void is() {
        HoleBank x = Due.bank("r352;s442;l283;r111;s811;l180", "");
        due.is("14: day -1", x.is(-1, 0, 0), BAD);
        due.is("14: day 40", x.is(40, 0, 0), BAD);
        due.is("14: hole -1", x.is(0, -1, 0), BAD);
        due.is("14: no such hole", x.is(0, 6, 0), BAD);
        due.is("14: what -1", x.is(0, 0, -1), BAD);
        due.is("14: what 3", x.is(0, 0, 3), BAD);
        for (int h = 0; h < 6; h++) x.loan(2, h, h, 4);
        isSo(x, 1, 0, 3, 5, NONE);
        isSo(x, 2, 0, 3, 5, 0);
        isSo(x, 3, 0, 4, 5, 0);
        isSo(x, 4, 0, 4, 5, 0);
        isSo(x, 5, 0, 5, 5, NONE);
        isSo(x, 39, 0, 5, 5, NONE);
        isSo(x, 5, 1, 6, 2, NONE);
        isSo(x, 4, 2, 2, 9, 2);
        isSo(x, 5, 2, 2, 9, NONE);
        isSo(x, 4, 3, 4, 1, 3);
        isSo(x, 4, 4, 9, 1, 4);
        isSo(x, 5, 5, 1, 8, NONE);
        countedOfTheSameDay();
        daysOutBeginAnew();
        patchesAtTheBank();
    }

    private static void isSo(HoleBank x, int day, int hole, int wide, int deep, int who) {
        due.is("14: wide, day " + day + ", hole " + hole, x.is(day, hole, 0), wide);
        due.is("14: deep, day " + day + ", hole " + hole, x.is(day, hole, 1), deep);
        due.is("14: who, day " + day + ", hole " + hole, x.is(day, hole, 2), who);
    }

    private static void countedOfTheSameDay() {
        HoleBank x = Due.bank("r550", "");
        x.loan(5, 0, 3, 2);
        x.loan(4, 0, 4, 1);
        x.loan(4, 0, 5, 9);
        x.loan(6, 0, 1, 1);
        isSo(x, 4, 0, 5, 5, NONE);
        isSo(x, 5, 0, 5, 5, 3);
        isSo(x, 6, 0, 5, 5, NONE);
        due.is("14: the first of a day counts", x.came(1, 0), 1);
        due.is("14: the second not", x.came(2, 0), 0);
        due.is("14: on the day behind the return it could", x.came(0, 0), 1);
        due.is("14: while it is out none counts", x.came(3, 0), 0);
    }

    private static void daysOutBeginAnew() {
        HoleBank x = Due.bank("r113", "");
        x.loan(0, 0, 0, 2);
        x.loan(2, 0, 0, 2);
        isSo(x, 3, 0, 1, 1, NONE);
        x.loan(4, 0, 0, 3);
        isSo(x, 6, 0, 2, 1, NONE);
    }

    private static void patchesAtTheBank() {
        HoleBank x = Due.bank("r351;r150", "");
        x.loan(1, 0, 0, 2);
        x.patch(0, 0);
        x.patch(1, 0);
        x.patch(2, 0);
        x.patch(3, 0);
        x.patch(3, 1);
        x.patch(3, 7);
        isSo(x, 0, 0, 2, 5, NONE);
        isSo(x, 1, 0, 3, 5, 0);
        isSo(x, 2, 0, 4, 5, NONE);
        isSo(x, 3, 0, 3, 5, NONE);
        isSo(x, 3, 1, 1, 5, NONE);
    }

    private static void behind() {
        HoleBank x = Due.bank("r351;s420;l190", "");
        due.is("15: day -1", x.behind(-1, 0), BAD);
        due.is("15: day 40", x.behind(40, 0), BAD);
        due.is("15: what -1", x.behind(0, -1), BAD);
        due.is("15: what 2", x.behind(0, 2), BAD);
        due.is("15: vault of all", x.behind(0, 0), 15 + 8 + 9);
        x.loan(1, 0, 0, 2);
        x.loan(1, 2, 0, 3);
        x.fill(0, 0);
        x.fill(1, 1);
        x.fill(1, 2);
        x.fill(2, 0);
        x.fill(2, 7);
        due.is("15: vault on day 1", x.behind(1, 0), 8);
        due.is("15: filled on day 0: at the bank nothing comes of it", x.behind(0, 1), 0);
        due.is("15: filled on day 1", x.behind(1, 1), 4);
        due.is("15: on day 2 hole 0 is emptied", x.behind(2, 1), 4);
        due.is("15: vault on day 2", x.behind(2, 0), 25 + 8);
        due.is("15: on day 3 hole 2 is", x.behind(3, 1), 0);
        due.is("15: no holes", new HoleBank().behind(0, 0), 0);
    }

    private static void came() {
        HoleBank x = Due.bank("s341;r111;l111", "");
        due.is("16: no such loan", x.came(0, 0), -1002);
        x.loan(0, 0, 0, 2);
        x.loan(0, 0, 0, 2);
        x.loan(39, 1, 0, 2);
        x.loan(39, 2, 0, 1);
        x.loan(0, 3, 0, 1);
        x.loan(2, 0, 1, 1);
        x.fill(1, 0);
        x.fill(39, 1);
        due.is("16: loan -1", x.came(-1, 0), -1002);
        due.is("16: loan 6", x.came(6, 0), -1002);
        due.is("16: what -1", x.came(0, -1), -1002);
        due.is("16: what 3", x.came(0, 3), -1002);
        cameSo(x, 0, 1, 1, 5 * 2 - 3 * 4);
        cameSo(x, 1, 0, 0, 0);
        cameSo(x, 2, 1, 0, 0);
        cameSo(x, 3, 1, 0, 1);
        cameSo(x, 4, 0, 0, 0);
        cameSo(x, 5, 1, 0, 6 - 10);
    }

    private static void cameSo(HoleBank x, int loan, int counts, int breach, int more) {
        due.is("16: counts, loan " + loan, x.came(loan, 0), counts);
        due.is("16: breach, loan " + loan, x.came(loan, 1), breach);
        due.is("16: more, loan " + loan, x.came(loan, 2), more);
    }

    private static void breaches() {
        HoleBank x = Due.bank("r550;r550;r550", "");
        due.is("17: person -1", x.breaches(-1), BAD);
        due.is("17: person 6", x.breaches(6), BAD);
        x.loan(0, 0, 5, 2);
        x.loan(0, 1, 5, 2);
        x.loan(0, 2, 4, 2);
        x.loan(5, 2, 5, 2);
        x.loan(5, 2, 3, 2);
        x.fill(0, 0);
        x.fill(1, 0);
        x.fill(1, 1);
        x.fill(2, 2);
        x.fill(6, 2);
        due.is("17: of 5", x.breaches(5), 3);
        due.is("17: of 4", x.breaches(4), 0);
        due.is("17: of 3", x.breaches(3), 0);
        due.is("17: of 0", x.breaches(0), 0);
    }

    private static void first() {
        HoleBank x = Due.bank("r550;r550;r550", "");
        due.is("18: none", x.first(), NONE);
        x.loan(0, 0, 0, 5);
        x.loan(0, 1, 0, 3);
        x.loan(1, 2, 0, 2);
        due.is("18: none is a breach", x.first(), NONE);
        x.fill(0, 0);
        due.is("18: the only one", x.first(), 0);
        x.fill(2, 2);
        due.is("18: the least day", x.first(), 2);
        x.fill(0, 1);
        due.is("18: of like ones the least", x.first(), 1);
    }

    private static void serves() {
        HoleBank x = Due.bank("r451;s110", "r441;r421;r451;r311;r211;s411;a191;a411");
        due.is("19: day -1", x.serves(-1, 0), BAD);
        due.is("19: day 40", x.serves(40, 0), BAD);
        due.is("19: hole -1", x.serves(0, -1), BAD);
        due.is("19: no such hole", x.serves(0, 2), BAD);
        due.is("19: hole 0", x.serves(0, 0), 1 + 2 + 4 + 8 + 16 + 128);
        due.is("19: hole 1", x.serves(0, 1), 0);
        x.loan(1, 0, 0, 5);
        due.is("19: also when it is out; 5 wide", x.serves(1, 0), 1 + 2 + 4 + 8 + 128);
        due.is("19: 6 wide", x.serves(2, 0), 1 + 2 + 4 + 128);
        HoleBank y = Due.bank("r550", "r561;r551;r541;r651");
        due.is("19: no less deep, no less wide", y.serves(0, 0), 2 + 4);
    }

    private static void best() {
        HoleBank x = Due.bank("r550;r550;s330", "r553;r557;a305;s391");
        due.is("20: day -1", x.best(-1, 0), BAD);
        due.is("20: day 40", x.best(40, 0), BAD);
        due.is("20: i -2", x.best(0, -2), BAD);
        due.is("20: i 8", x.best(0, 8), BAD);
        bestSo(x, 0, 15, 0, 1, 2, NONE);
        due.is("20: beyond the works", x.best(0, 4), NONE);
        due.is("20: beyond the works", x.best(0, 7), NONE);
        x.loan(1, 0, 0, 3);
        bestSo(x, 1, 12, NONE, 1, 2, NONE);
        x.loan(1, 2, 0, 3);
        bestSo(x, 1, 7, NONE, 1, NONE, NONE);
        // all are of one worth: which works are served is the least row, with none behind all
        HoleBank y = Due.bank("r550", "a551;a551;a551");
        bestSo(y, 0, 1, 0, NONE, NONE);
        // a work may take a worse hole so that another is served
        HoleBank z = Due.bank("r550;s550", "a559;r559");
        bestSo(z, 0, 18, 1, 0);
        // one great worth is more than two small ones
        HoleBank v = Due.bank("r550", "r552;r553;r554");
        bestSo(v, 0, 4, NONE, NONE, 0);
        due.is("20: no works", Due.bank("r550", "").best(0, NONE), 0);
        due.is("20: no holes", Due.bank("", "a111").best(0, 0), NONE);
        HoleBank all = Due.bank("r550;r550;r550;r550;r550;r550;r550;r550", "a559;a559;a559;a559;a559;a559;a559;a559");
        bestSo(all, 39, 72, 0, 1, 2, 3, 4, 5, 6, 7);
    }

    private static void bestSo(HoleBank x, int day, int worth, int... row) {
        due.is("20: most worth", x.best(day, NONE), worth);
        for (int i = 0; i < row.length; i++) due.is("20: row " + i, x.best(day, i), row[i]);
    }

    private static void mend() {
        HoleBank x = Due.bank("r950;r850;s750;l220", "r355;a459;r559;a111;a199;r551");
        due.is("21: work -1", x.mend(-1, 0, 0), BAD);
        due.is("21: no such work", x.mend(6, 0, 0), BAD);
        due.is("21: day -1", x.mend(0, -1, 0), BAD);
        due.is("21: day 40", x.mend(0, 40, 0), BAD);
        due.is("21: i -2", x.mend(0, 0, -2), BAD);
        due.is("21: i 3", x.mend(0, 0, 3), BAD);
        mendSo(x, 0, 0, 3, 1, 1, 1);
        mendSo(x, 1, 0, 1, 2, NONE, NONE);
        mendSo(x, 2, 0, 1, 1, NONE, NONE);
        mendSo(x, 3, 0, 0, NONE, NONE, NONE);
        mendSo(x, 4, 0, NONE, NONE, NONE, NONE);
        // hole 1 is out on day 5 and back behind it: no patch of that day can reach it
        x.loan(5, 1, 0, 1);
        mendSo(x, 5, 5, 2, 0, 0, NONE);
        mendSo(x, 5, 6, 1, 1, NONE, NONE);
        // patches that were told count, and nothing is kept of those that were tried
        for (int n = 0; n < 8; n++) x.patch(7, 3);
        mendSo(x, 5, 7, 1, 1, NONE, NONE);
        due.is("21: patches", x.count(6), 8);
        HoleBank y = Due.bank("r450;r450", "r151");
        mendSo(y, 0, 0, 1, 0, NONE, NONE);
        y.patch(0, 1);
        mendSo(y, 0, 0, 0, NONE, NONE, NONE);
        mendSo(Due.bank("r750", "r151"), 0, 0, NONE, NONE, NONE, NONE);
        mendSo(Due.bank("", "r151"), 0, 0, NONE, NONE, NONE, NONE);
    }

    private static void mendSo(HoleBank x, int work, int day, int n, int... row) {
        String what = "21: work " + work + ", day " + day;
        due.is(what, x.mend(work, day, NONE), n);
        for (int i = 0; i < 3; i++) due.is(what + ", i " + i, x.mend(work, day, i), row[i]);
    }

    private static void call() {
        HoleBank x = Due.bank("r550;r550;s330", "r553;s337;r551");
        due.is("22: day -1", x.call(-1, 0), -1002);
        due.is("22: day 40", x.call(40, 0), -1002);
        due.is("22: what -1", x.call(0, -1), -1002);
        due.is("22: what 2", x.call(0, 2), -1002);
        callSo(x, 0, NONE, NONE);
        x.loan(1, 0, 0, 5);
        callSo(x, 0, NONE, NONE);
        callSo(x, 1, 0, 1);
        callSo(x, 5, NONE, NONE);
        x.loan(1, 2, 0, 5);
        callSo(x, 1, 1, 7);
        x.loan(1, 1, 0, 5);
        x.loan(1, 0, 0, 5);
        callSo(x, 2, 1, 7);
        x.wipe(1);
        callSo(x, 2, 0, 0);
        // had the loan that is out not been told, another would count, by which the hole is back and wide enough
        HoleBank y = Due.bank("r451", "r554");
        y.loan(0, 0, 0, 9);
        y.loan(1, 0, 0, 1);
        callSo(y, 0, 0, 0);
        callSo(y, 1, 0, 4);
        // had it not been told, another would count by which the hole is still out
        HoleBank z = Due.bank("r440;r330", "r443;r332");
        z.loan(0, 0, 0, 5);
        z.loan(1, 0, 0, 9);
        callSo(z, 0, 0, 3);
        callSo(z, 1, 0, 0);
        due.is("22: a loan that does not count is not called in", z.call(5, 0), NONE);
        callSo(z, 39, NONE, NONE);
    }

    private static void callSo(HoleBank x, int day, int which, int more) {
        due.is("22: which, day " + day, x.call(day, 0), which);
        due.is("22: how much more, day " + day, x.call(day, 1), more);
    }

    private static void seen() {
        HoleBank x = new HoleBank();
        due.is("23: day -1", x.seen(-1, 0, 0), BAD);
        due.is("23: day 40", x.seen(40, 0, 0), BAD);
        due.is("23: hole -1", x.seen(0, -1, 0), BAD);
        due.is("23: hole 8", x.seen(0, 8, 0), BAD);
        due.is("23: wide -1", x.seen(0, 0, -1), BAD);
        due.is("23: wide 10", x.seen(0, 0, 10), BAD);
        for (int n = 1; n <= 8; n++) due.is("23: seen " + n, x.seen(39, 7, n + 1), n);
        due.is("23: a 9th", x.seen(0, 0, 0), FULL);
        due.is("23: bad ahead of full", x.seen(0, 0, 10), BAD);
    }

    private static void forget() {
        HoleBank x = Due.bank("r550", "");
        due.is("24: none", x.forget(), 0);
        x.loan(0, 0, 0, 1);
        x.seen(0, 0, 9);
        x.seen(0, 0, 9);
        due.is("24: never ahead", x.never(0), 0);
        due.is("24: two", x.forget(), 2);
        due.is("24: never", x.never(0), 1);
        due.is("24: seen", x.count(7), 0);
        due.is("24: one again", x.seen(0, 0, 0), 1);
    }

    private static void never() {
        HoleBank x = Due.bank("r551;r440", "");
        due.is("25: what -1", x.never(-1), BAD);
        due.is("25: what 2", x.never(2), BAD);
        due.is("25: no loans", x.never(0), 0);
        x.loan(0, 0, 0, 2);
        x.loan(2, 0, 0, 2);
        x.loan(3, 1, 0, 2);
        x.patch(1, 1);
        x.patch(5, 0);
        due.is("25: nothing was seen: each", x.never(0), 7);
        due.is("25: nothing was seen: each", x.never(1), 3);
        x.seen(5, 0, 6);
        due.is("25: one of two", x.never(0), 3);
        due.is("25: no patch", x.never(1), 0);
        x.seen(2, 0, 0);
        due.is("25: out on day 2", x.never(0), 1);
        x.forget();
        x.seen(2, 0, 8);
        due.is("25: an out hole is not seen wide", x.never(0), 0);
        x.forget();
        x.seen(5, 0, 9);
        due.is("25: the patch of day 5", x.never(1), 2);
        x.forget();
        x.seen(39, 1, 4);
        due.is("25: the patch of day 1", x.never(1), 1);
        x.seen(0, 2, 0);
        due.is("25: a hole that there is not", x.never(1), 0);
        due.is("25: loans stay", x.count(4), 3);
        due.is("25: and what came of them", x.came(2, 0), 1);
    }

    private static void look() {
        HoleBank x = new HoleBank();
        due.is("26: day -1", x.look(-1), BAD);
        due.is("26: day 40", x.look(40), BAD);
        due.is("26: no holes", x.look(0), NONE);
        Due.type(x, 0, "r550;r551;r221");
        due.is("26: no loans", x.look(0), 0);
        x.loan(0, 1, 0, 1);
        x.loan(0, 2, 0, 2);
        x.loan(2, 2, 0, 3);
        // without each: hole 1 is 5, 6, 6 wide; hole 2 out by two, then 4; day 5: 7, 5, 4
        due.is("26: day 0", x.look(0), 1);
        due.is("26: day 5", x.look(5), 2);
        x.seen(5, 2, 7);
        due.is("26: one loan is left: all are alike", x.look(5), 0);
        x.seen(5, 2, 6);
        due.is("26: none is left", x.look(5), 0);
    }

    private static void moths() {
        HoleBank x = Due.bank("r450;r450;r950;l750", "r551;r351;r951;a994;r651;l851");
        long bad = Long.MIN_VALUE + 2;
        due.is("27: c -1", x.moths(-1, 0, 0, 0), bad);
        due.is("27: c 17", x.moths(17, 0, 0, 0), bad);
        due.is("27: day -1", x.moths(0, -1, 0, 0), bad);
        due.is("27: day 40", x.moths(0, 40, 0, 0), bad);
        due.is("27: work -1", x.moths(0, 0, -1, 0), bad);
        due.is("27: no such work", x.moths(0, 0, 6, 0), bad);
        due.is("27: what -1", x.moths(0, 0, 0, -1), bad);
        due.is("27: what 2", x.moths(0, 0, 0, 2), bad);
        mothsSo(x, 8, 0, 0, 3, 4);
        mothsSo(x, 4, 0, 0, 7, 16);
        mothsSo(x, 1, 0, 0, 31, 256);
        mothsSo(x, 0, 0, 0, 0, 1);
        mothsSo(x, 16, 0, 0, 1, 1);
        mothsSo(x, 5, 0, 1, 1, 1);
        mothsSo(x, 16, 0, 1, 1, 1);
        mothsSo(x, 7, 0, 2, 1, 1);
        mothsSo(x, 7, 0, 3, 0, 1);
        mothsSo(x, 7, 0, 4, 0, 1);
        mothsSo(x, 6, 0, 5, 3, 8);
        x.ease(0);
        mothsSo(x, 4, 0, 0, 7, 16);
        x.loan(1, 1, 0, 1);
        x.loan(2, 1, 0, 2);
        mothsSo(x, 4, 1, 0, 7, 16);
        mothsSo(x, 4, 2, 0, 1, 4);
        HoleBank y = Due.bank("r450;r450;r450;r450;r450;r450;r450;r450", "r551");
        mothsSo(y, 1, 0, 0, 4294967296L - 2562890625L, 4294967296L);
        mothsSo(Due.bank("", "a111"), 3, 0, 0, 0, 1);
    }

    private static void mothsSo(HoleBank x, int c, int day, int work, long above, long below) {
        String what = "27: c " + c + ", day " + day + ", work " + work;
        due.is(what + ", above", x.moths(c, day, work, 0), above);
        due.is(what + ", below", x.moths(c, day, work, 1), below);
    }

    private static void run() {
        HoleBank x = Due.bank("r551;r220", "");
        due.is("28: n 0", x.run(0, 0, 0), BAD);
        due.is("28: n 41", x.run(0, 41, 0), BAD);
        due.is("28: n least", x.run(0, MIN, 0), BAD);
        due.is("28: what -1", x.run(0, 1, -1), BAD);
        due.is("28: what 2", x.run(0, 1, 2), BAD);
        // seed 0: 12345 (upper bits 0: hole 0), then -740551042: 54235 modulo 9 is 1: for 2 days
        due.is("28: on day 0 hole 0 is out", x.run(0, 1, 0), 4);
        due.is("28: it counts", x.run(0, 1, 1), 1);
        x.loan(0, 0, 0, 9);
        due.is("28: told behind all others", x.run(0, 1, 1), 0);
        x.loan(0, 1, 0, 9);
        due.is("28: nothing is left", x.run(0, 9, 1), 0);
        due.is("28: all out on the 8th day", x.run(0, 8, 0), 0);
        due.is("28: loans stay", x.count(4), 2);
        due.is("28: and what came of them", x.came(1, 0), 1);
        due.is("28: no holes", new HoleBank().run(5, 40, 0), 0);
        due.is("28: no holes", new HoleBank().run(5, 40, 1), 0);
        for (int k = 0; k < 10; k++) x.loan(39, 7, 0, 1);
        due.is("28: with all loans told, 40 more", x.run(0, 40, 1) > 0 ? 1 : 0, 1);
    }

    private static void sheet() {
        HoleBank x = new HoleBank();
        due.is("29: sheet -1", x.sheet(-1, 0, 0), BAD);
        due.is("29: sheet 4", x.sheet(4, 0, 0), BAD);
        due.is("29: form -1", x.sheet(0, -1, 0), BAD);
        due.is("29: form 3", x.sheet(0, 3, 0), BAD);
        due.is("29: 61 items", x.sheet(0, 0, 61), BAD);
        due.is("29: no finding yet", x.count(8), 0);
        due.is("29: bad ahead of size", x.sheet(0, 3, -1), BAD);
        due.is("29: -1 items", x.sheet(0, 0, -1), SIZE);
        due.is("29: least", x.sheet(0, 0, MIN), SIZE);
        due.is("29: its finding", x.count(8), 5);
        due.is("29: it is still lost", x.lose(0), NULL);
        due.is("29: 60", x.sheet(3, 2, 60), 60);
        x.lay(3, 2, 59, 7);
        due.is("29: refused", x.sheet(3, 1, -1), SIZE);
        due.is("29: it is as it was", x.get(3, 2, 59), 7);
        due.is("29: anew", x.sheet(3, 2, 60), 60);
        due.is("29: its items are 0", x.get(3, 2, 59), 0);
        due.is("29: none", x.sheet(3, 1, 0), 0);
        due.is("29: has no item", x.lay(3, 1, 0, 1), INDEX);
    }

    private static void lose() {
        HoleBank x = new HoleBank();
        due.is("30: sheet -1", x.lose(-1), BAD);
        due.is("30: sheet 4", x.lose(4), BAD);
        due.is("30: lost", x.lose(2), NULL);
        due.is("30: its finding", x.count(8), 1);
        x.sheet(2, 0, 17);
        due.is("30: 17", x.lose(2), 17);
        due.is("30: now it is lost", x.get(2, 0, 0), MIN);
        due.is("30: again", x.lose(2), NULL);
    }

    private static void lay() {
        HoleBank x = new HoleBank();
        due.is("31: sheet -1", x.lay(-1, 0, 0, 0), BAD);
        due.is("31: sheet 4", x.lay(4, 0, 0, 0), BAD);
        due.is("31: form -1", x.lay(0, -1, 0, 0), BAD);
        due.is("31: form 3", x.lay(0, 3, 0, 0), BAD);
        due.is("31: lost", x.lay(0, 0, 0, 0), NULL);
        x.sheet(0, 1, 3);
        due.is("31: cast ahead of index", x.lay(0, 2, 3, 0), CAST);
        due.is("31: its finding", x.count(8), 3);
        due.is("31: item 3", x.lay(0, 1, 3, 0), INDEX);
        due.is("31: item -1", x.lay(0, 1, -1, 0), INDEX);
        due.is("31: its finding", x.count(8), 2);
        due.is("31: a bad number is none", x.lay(0, 3, 0, 0), BAD);
        due.is("31: the finding stays", x.count(8), 2);
        due.is("31: 1", x.lay(0, 1, 2, 0x12348001), 1);
        due.is("31: shorts", x.get(0, 1, 2), (short) 0x8001);
        x.sheet(1, 0, 1);
        x.lay(1, 0, 0, 0x180);
        due.is("31: bytes", x.get(1, 0, 0), -128);
        x.sheet(1, 2, 1);
        x.lay(1, 2, 0, MIN + 5);
        due.is("31: ints", x.get(1, 2, 0), MIN + 5);
    }

    private static void get() {
        HoleBank x = new HoleBank();
        due.is("32: sheet -1", x.get(-1, 0, 0), MIN);
        due.is("32: sheet 4", x.get(4, 0, 0), MIN);
        due.is("32: form 3", x.get(0, 3, 0), MIN);
        due.is("32: form -1", x.get(0, -1, 0), MIN);
        due.is("32: bad is no finding", x.count(8), 0);
        due.is("32: lost", x.get(0, 0, 0), MIN);
        due.is("32: its finding", x.count(8), 1);
        x.sheet(0, 0, 2);
        due.is("32: cast", x.get(0, 1, 2), MIN);
        due.is("32: its finding", x.count(8), 3);
        due.is("32: index", x.get(0, 0, 2), MIN);
        due.is("32: its finding", x.count(8), 2);
        due.is("32: 0 at first", x.get(0, 0, 1), 0);
        due.is("32: the finding stays", x.count(8), 2);
    }

    private static void copy() {
        HoleBank x = new HoleBank();
        due.is("33: sheet -1", x.copy(-1, 0, 0, 0, 0), BAD);
        due.is("33: sheet 4", x.copy(0, 0, 4, 0, 0), BAD);
        due.is("33: bad ahead of null", x.copy(0, 0, -1, 0, 0), BAD);
        due.is("33: both lost", x.copy(0, 0, 1, 0, 0), NULL);
        x.sheet(0, 1, 5);
        due.is("33: t lost", x.copy(0, 0, 1, 0, 0), NULL);
        due.is("33: s lost", x.copy(1, 0, 0, 0, 0), NULL);
        x.sheet(1, 2, 5);
        due.is("33: store ahead of index", x.copy(0, -1, 1, 0, 9), STORE);
        due.is("33: its finding", x.count(8), 4);
        x.sheet(1, 1, 3);
        due.is("33: i -1", x.copy(0, -1, 1, 0, 1), INDEX);
        due.is("33: j -1", x.copy(0, 0, 1, -1, 1), INDEX);
        due.is("33: n -1", x.copy(0, 0, 1, 0, -1), INDEX);
        due.is("33: not so many in s", x.copy(0, 4, 1, 0, 2), INDEX);
        due.is("33: not so many in t", x.copy(0, 0, 1, 0, 4), INDEX);
        due.is("33: great numbers", x.copy(0, MAX, 1, MAX, MAX), INDEX);
        due.is("33: great n", x.copy(0, 1, 1, 1, MAX), INDEX);
        due.is("33: none behind the end", x.copy(0, 6, 1, 0, 0), INDEX);
        due.is("33: none at the ends", x.copy(0, 5, 1, 3, 0), 1);
        for (int i = 0; i < 5; i++) x.lay(0, 1, i, i + 1);
        due.is("33: two", x.copy(0, 3, 1, 1, 2), 1);
        due.is("33: item 0 stays", x.get(1, 1, 0), 0);
        due.is("33: item 1", x.get(1, 1, 1), 4);
        due.is("33: item 2", x.get(1, 1, 2), 5);
        due.is("33: upwards in itself", x.copy(0, 0, 0, 1, 4), 1);
        for (int i = 1; i < 5; i++) due.is("33: item " + i, x.get(0, 1, i), i);
        due.is("33: downwards in itself", x.copy(0, 1, 0, 0, 4), 1);
        for (int i = 0; i < 4; i++) due.is("33: item " + i, x.get(0, 1, i), i + 1);
    }

    private static void write() {
        HoleBank x = Due.bank("r451;s330;l220", "");
        due.is("34: day -1", x.write(-1, 0), BAD);
        due.is("34: day 40", x.write(40, 0), BAD);
        due.is("34: sheet -1", x.write(0, -1), BAD);
        due.is("34: sheet 4", x.write(0, 4), BAD);
        due.is("34: lost", x.write(0, 0), NULL);
        due.is("34: its finding", x.count(8), 1);
        x.loan(0, 0, 0, 2);
        x.sheet(0, 2, 5);
        layAll(x, 0, 2, 7, 7, 7, 7, 7);
        due.is("34: three", x.write(0, 0), 3);
        int[] want = {0, 3, 2, 7, 7};
        for (int i = 0; i < 5; i++) due.is("34: item " + i, x.get(0, 2, i), want[i]);
        x.sheet(1, 0, 1);
        due.is("34: one", x.write(1, 1), 1);
        due.is("34: item 0", x.get(1, 0, 0), 6);
        x.sheet(1, 1, 0);
        due.is("34: no items", x.write(1, 1), 0);
        x.wipe(0);
        due.is("34: no holes", x.write(0, 0), 0);
    }

    private static void count() {
        HoleBank x = Due.bank("r111;r111", "a111;a111;a111");
        due.is("35: what -1", x.count(-1), BAD);
        due.is("35: what 9", x.count(9), BAD);
        x.loan(0, 0, 0, 1);
        x.loan(0, 0, 0, 1);
        x.loan(0, 1, 0, 1);
        x.loan(0, 2, 0, 1);
        x.fill(0, 0);
        x.fill(0, 0);
        x.patch(0, 0);
        x.seen(0, 0, 0);
        x.copy(0, 0, 0, 0, 0);
        int[] want = {2, 3, 9, 14, 4, 2, 3, 1, 1};
        for (int what = 0; what <= 8; what++) due.is("35: what " + what, x.count(what), want[what]);
        x.type(0, '?');
        due.is("35: holes with a fault", x.count(0), 0);
        due.is("35: bytes", x.count(2), 10);
        due.is("35: no loan counts", x.count(5), 0);
    }

    private static void digest() {
        HoleBank x = new HoleBank();
        due.is("36: a new object", x.digest(), digestOf(x));
        // counts 0, faults NONE, days of 0 0 0 NONE NONE NONE NONE, breaches 0, first NONE, the rest 0
        long h = 17;
        int[] all = {
            0, 0, 0, 0, 0, 0, 0, 0, -1, -1, 0, 0, 0, -1, -1, -1, -1, 0, 0, 0, -1, -1, -1, -1, 0, 0, 0, -1, -1, -1, -1,
            0, 0, 0, 0, 0, 0, -1, 0, 0, 0, 0
        };
        for (int v : all) h = 31 * h + v;
        due.is("36: by hand", x.digest(), h);
        HoleBank y = Due.bank("r352;s441;l291", "r339;a457;l295");
        y.loan(0, 0, 3, 9);
        y.loan(5, 1, 2, 2);
        y.fill(6, 1);
        y.patch(2, 2);
        y.seen(5, 1, 0);
        due.is("36: from its parts", y.digest(), digestOf(y));
        y.lose(0);
        due.is("36: a finding is not in it", y.digest(), digestOf(y));
        due.is("36: and it changes nothing", y.count(8), 1);
    }

    private static long digestOf(HoleBank x) {
        long h = 17;
        for (int k = 0; k <= 7; k++) h = 31 * h + x.count(k);
        for (int t = 0; t < 2; t++) h = 31 * h + x.fault(t);
        for (int k = 0; k < x.count(0); k++) {
            for (int what = 0; what <= 3; what++) h = 31 * h + x.hole(k, what);
            for (int what = 0; what <= 2; what++) h = 31 * h + x.is(5, k, what);
            for (int what = 0; what <= 2; what++) h = 31 * h + x.is(39, k, what);
            h = 31 * h + x.serves(5, k);
        }
        for (int k = 0; k < x.count(1); k++) {
            for (int what = 0; what <= 3; what++) h = 31 * h + x.work(k, what);
            h = 31 * (31 * h + x.mend(k, 3, NONE)) + x.mend(k, 3, 0);
            h = 31 * (31 * h + x.moths(5, 9, k, 0)) + x.moths(5, 9, k, 1);
        }
        for (int k = 0; k < x.count(4); k++) {
            for (int what = 0; what <= 2; what++) h = 31 * h + x.came(k, what);
        }
        for (int day : new int[] {0, 5, 39}) {
            h = 31 * (31 * h + x.behind(day, 0)) + x.behind(day, 1);
            h = 31 * (31 * h + x.best(day, NONE)) + x.best(day, 0);
            h = 31 * (31 * h + x.call(day, 0)) + x.call(day, 1);
            h = 31 * h + x.look(day);
        }
        for (int p = 0; p <= 5; p++) h = 31 * h + x.breaches(p);
        h = 31 * h + x.first();
        h = 31 * (31 * h + x.never(0)) + x.never(1);
        return 31 * (31 * h + x.run(7, 20, 0)) + x.run(7, 20, 1);
    }
}
