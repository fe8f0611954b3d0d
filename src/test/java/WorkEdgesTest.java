/** The edges of part 3 (serves, best, mend, call) and of promises 13 and 19 to 22. */
public final class WorkEdgesTest {
    private static final int NONE = HoleBank.NONE, BAD = HoleBank.BAD;
    private static final int ANY_BAD = -1002;
    private static final int MIN = Integer.MIN_VALUE, MAX = Integer.MAX_VALUE;
    private static final String EIGHT = "r550;r550;r550;r550;r550;r550;r550;r550";

    private static final Due due = new Due();

    public static void main(String[] args) {
        servesByShape();
        servesByWidth();
        servesByEase();
        servesByDepth();
        bestAtTheBank();
        bestForOneAtMost();
        bestIsMost();
        bestOfFewerWorks();
        bestOfLikeOnes();
        mendFewest();
        mendAtTheBank();
        mendOfLikeOnes();
        mendBehindAllOthers();
        callThatCounts();
        callOfLikeOnes();
        callHowMuchMore();
        ease();
        serves();
        best();
        mend();
        call();
        due.end();
    }

    private static final String SERVES = "A HOLE SERVES a WORK, if it is of that shape (or any will do), no less WIDE,"
        + " no more than that and EASE (0 to 8; 2 at first), no less DEEP.";

    private static int servedBy(String hole, String works) {
        return Due.bank(hole, works).serves(0, 0);
    }

    private static void servesByShape() {
        due.says(SERVES);
        String works = "r551;s551;l551;a551";
        due.is("round", servedBy("r550", works), 1 + 8);
        due.is("square", servedBy("s550", works), 2 + 8);
        due.is("long", servedBy("l550", works), 4 + 8);
    }

    private static void servesByWidth() {
        due.says(SERVES);
        due.is("1 less wide is too little; 2 more is not too much, 3 more is",
            servedBy("r550", "r651;r551;r451;r351;r251;r151"), 2 + 4 + 8);
        due.is("the least", servedBy("r110", "r111;r211"), 1);
        due.is("the most", servedBy("r910", "r911;r811;r711;r611"), 1 + 2 + 4);
    }

    private static void servesByEase() {
        due.says(SERVES);
        HoleBank x = Due.bank("r950;r150", "r911;r811;r711;r611;r411;r311;r211;r111");
        int[] want = {1, 3, 7, 15, 15, 31, 63, 127, 255};
        for (int ease = 0; ease <= 8; ease++) {
            x.ease(ease);
            due.is("ease " + ease, x.serves(0, 0), want[ease]);
            due.is("1 wide, ease " + ease, x.serves(0, 1), 128);
        }
    }

    private static void servesByDepth() {
        due.says(SERVES);
        due.is("1 less deep is too little", servedBy("r550", "r561;r551;r541;r501;r591"), 2 + 4 + 8);
        due.is("the least", servedBy("r510", "r511;r501;r521"), 1 + 2);
        due.is("the most", servedBy("r590", "r591;r501"), 1 + 2);
    }

    private static void bestSo(HoleBank x, int day, int worth, int... row) {
        due.is("best, how much", x.best(day, NONE), worth);
        for (int i = 0; i < 8; i++) due.is("best, work " + i, x.best(day, i), i < row.length ? row[i] : NONE);
    }

    private static void bestAtTheBank() {
        due.says("BEST behind a DAY: HOLES at the bank for WORKS");
        HoleBank x = Due.bank("r550;r550", "r557;r552");
        x.loan(1, 0, 0, 2);
        x.loan(1, 1, 0, 3);
        bestSo(x, 0, 9, 0, 1);
        bestSo(x, 1, 0, NONE, NONE);
        bestSo(x, 2, 7, 0, NONE);
        bestSo(x, 3, 9, 0, 1);
        bestSo(x, 39, 9, 0, 1);
    }

    private static void bestForOneAtMost() {
        due.says("HOLES at the bank for WORKS, each for one at most");
        bestSo(Due.bank("r550", "r553;r553;r553"), 0, 3, 0, NONE, NONE);
        bestSo(Due.bank("r550;r550;r550", "r553"), 0, 3, 0);
        bestSo(Due.bank(EIGHT, "a559;a559;a559;a559;a559;a559;a559;a559"), 0, 72, 0, 1, 2, 3, 4, 5, 6, 7);
        bestSo(Due.bank("", "a119;a119"), 0, 0);
        bestSo(Due.bank(EIGHT, ""), 0, 0);
        bestSo(new HoleBank(), 0, 0);
    }

    private static void bestIsMost() {
        due.says("that by which WORTH of all WORKS that are served is most");
        bestSo(Due.bank("r550", "r558;r559"), 0, 9, NONE, 0);
        bestSo(Due.bank("r550;s550", "a551;r551"), 0, 2, 1, 0);
        // hole 0 suits both the first and the last work, and goes to the dearer one
        bestSo(Due.bank("r550;l550", "a555;l559;r554"), 0, 14, 0, 1, NONE);
        bestSo(Due.bank("r450;r550;r650", "r451;r551;r651"), 0, 3, 0, 1, 2);
        HoleBank chain = Due.bank("r450;r550;r650", "r455;r355;r255");
        bestSo(chain, 0, 15, 2, 1, 0);
    }

    private static void bestOfFewerWorks() {
        due.says("WORTH of all WORKS that are served is most");
        HoleBank x = Due.bank("r550;r550;r550", "r551;r558;r559");
        bestSo(x, 0, 18, 0, 1, 2);
        for (int n = 0; n < 5; n++) x.undo(1);
        bestSo(x, 0, 9, 0, 1);
        for (int n = 0; n < 5; n++) x.undo(1);
        bestSo(x, 0, 1, 0);
        x.wipe(1);
        bestSo(x, 0, 0);
        Due.type(x, 1, "s559;r551");
        bestSo(x, 0, 1, NONE, 0);
    }

    private static void bestOfLikeOnes() {
        due.says("of like ones the least row (none is more than any)");
        bestSo(Due.bank("r550;r550", "r551;r551"), 0, 2, 0, 1);
        bestSo(Due.bank("r550", "r551;r551"), 0, 1, 0, NONE);
        bestSo(Due.bank("s110;s110;s110;s110;s110;s110;s110;r550", "r551;r551"), 0, 1, 7, NONE);
        // (0, NONE) and (NONE, 0) are of like worth only where the worths are like
        bestSo(Due.bank("r550", "r551;r552"), 0, 2, NONE, 0);
        // served or not, the first work goes ahead: (0, NONE, 1) is less than (NONE, 0, 1)
        bestSo(Due.bank("r550;s550", "r551;r551;s551"), 0, 2, 0, NONE, 1);
        // (0, 1) is less than (1, 0), though hole 1 suits the first work as well
        bestSo(Due.bank("r550;r450", "r451;r451"), 0, 2, 0, 1);
    }

    private static void mendSo(HoleBank x, int work, int day, int n, int... row) {
        String what = "mend of work " + work + ", day " + day;
        due.is(what, x.mend(work, day, NONE), n);
        for (int i = 0; i < 3; i++) due.is(what + ", i " + i, x.mend(work, day, i), i < row.length ? row[i] : NONE);
    }

    private static void mendFewest() {
        due.says("MEND of a WORK, on a told DAY: the fewest PATCHES more (0 to 3), told behind all others,"
            + " by which some HOLE at the bank SERVES it behind that DAY");
        HoleBank x = Due.bank("r950", "r951;r751;r651;r551;r451;r351;s951;r961");
        mendSo(x, 0, 0, 0);
        mendSo(x, 1, 0, 0);
        mendSo(x, 2, 0, 1, 0);
        mendSo(x, 3, 0, 2, 0, 0);
        mendSo(x, 4, 0, 3, 0, 0, 0);
        mendSo(x, 5, 0, NONE);
        mendSo(x, 6, 0, NONE);
        mendSo(x, 7, 0, NONE);
        mendSo(x, 4, 39, 3, 0, 0, 0);
        mendSo(Due.bank("r550", "r651;r591"), 0, 0, NONE);
        mendSo(Due.bank("r550", "r651;r591"), 1, 0, NONE);
        x.ease(0);
        mendSo(x, 2, 0, 3, 0, 0, 0);
        mendSo(x, 3, 0, NONE);
    }

    private static void mendAtTheBank() {
        due.says("by which some HOLE at the bank SERVES it behind that DAY");
        HoleBank x = Due.bank("r850", "r551;r651");
        x.loan(3, 0, 0, 2);
        mendSo(x, 0, 2, 1, 0);
        mendSo(x, 0, 3, NONE);
        mendSo(x, 0, 4, NONE);
        mendSo(x, 0, 5, 1, 0);
        mendSo(x, 1, 2, 0);
        mendSo(x, 1, 3, NONE);
        // back behind the day on which patches came too early for it: served as it is, but not to be patched
        mendSo(x, 1, 4, 0);
        HoleBank y = Due.bank("r550;r850", "r551");
        y.loan(0, 0, 0, 9);
        mendSo(y, 0, 0, 1, 1);
        mendSo(y, 0, 8, 0);
    }

    private static void mendOfLikeOnes() {
        due.says("of like ones the least row of HOLES that there are (none less than the one ahead): how many; the i-th; NONE");
        mendSo(Due.bank("r950;r850;r850", "r551"), 0, 0, 1, 1);
        mendSo(Due.bank("r950;r950", "r551"), 0, 0, 2, 0, 0);
        mendSo(Due.bank("s950;r950;r950", "r451"), 0, 0, 3, 1, 1, 1);
        mendSo(Due.bank("s950;r950;r950", "a451"), 0, 0, 3, 0, 0, 0);
        mendSo(Due.bank("s110;s110;s110;s110;s110;s110;s110;r950", "r451"), 0, 0, 3, 7, 7, 7);
        mendSo(Due.bank("", "r551"), 0, 0, NONE);
    }

    private static void mendBehindAllOthers() {
        due.says("the fewest PATCHES more (0 to 3), told behind all others");
        HoleBank x = Due.bank("r950;r950", "r251");
        mendSo(x, 0, 4, NONE);
        x.patch(4, 1);
        mendSo(x, 0, 3, NONE);
        mendSo(x, 0, 4, NONE);
        x.patch(4, 1);
        mendSo(x, 0, 4, 3, 1, 1, 1);
        mendSo(x, 0, 5, 3, 1, 1, 1);
        x.patch(5, 1);
        mendSo(x, 0, 4, 3, 1, 1, 1);
        mendSo(x, 0, 5, 2, 1, 1);
        // eight are told: more can still be tried
        for (int n = 0; n < 5; n++) x.patch(6, 0);
        due.is("eight patches", x.count(6), 8);
        mendSo(x, 0, 5, 2, 1, 1);
        mendSo(x, 0, 6, 0);
        due.is("none was kept", x.count(6), 8);
        due.is("nor is the hole less wide by what was tried", x.is(5, 1, 0), 6);
    }

    private static void callSo(HoleBank x, int day, int which, int more) {
        due.is("call, which, day " + day, x.call(day, 0), which);
        due.is("call, how much more, day " + day, x.call(day, 1), more);
    }

    private static void callThatCounts() {
        due.says("CALL behind a DAY: the LOAN that counts, and is out then, without which BEST would be most");
        HoleBank x = Due.bank("r550;r550", "r557");
        x.loan(5, 0, 0, 3);
        x.loan(5, 0, 0, 9);
        x.loan(5, 7, 0, 9);
        callSo(x, 4, NONE, NONE);
        callSo(x, 5, 0, 0);
        callSo(x, 6, 0, 0);
        callSo(x, 7, NONE, NONE);
        // the twelfth
        HoleBank y = Due.bank("r550", "r557");
        for (int n = 0; n < 11; n++) y.loan(n, 0, 0, 1);
        y.loan(39, 0, 0, 2);
        callSo(y, 39, 11, 7);
        callSo(y, 38, NONE, NONE);
        // one that does not count is not called, however much more it were
        HoleBank z = Due.bank("r110;r550", "r557");
        z.loan(0, 0, 0, 9);
        z.loan(0, 1, 0, 1);
        z.loan(0, 1, 0, 9);
        callSo(z, 0, 0, 0);
    }

    private static void callOfLikeOnes() {
        due.says("without which BEST would be most, of like ones the least: which");
        HoleBank x = Due.bank("r550;s550;l550", "a553;s553;l554");
        x.loan(1, 1, 0, 9);
        x.loan(0, 0, 0, 9);
        callSo(x, 1, 0, 3);
        x.loan(1, 2, 0, 9);
        callSo(x, 1, 2, 4);
        callSo(x, 8, 2, 4);
        x.back(0);
        x.loan(1, 2, 0, 1);
        callSo(x, 1, 0, 3);
    }

    private static void callHowMuchMore() {
        due.says("how much more BEST would be (any number); NONE: none is out");
        callSo(new HoleBank(), 0, NONE, NONE);
        callSo(new HoleBank(), 39, NONE, NONE);
        HoleBank x = Due.bank("r550", "r559");
        callSo(x, 0, NONE, NONE);
        x.loan(0, 0, 0, 2);
        callSo(x, 0, 0, 9);
        callSo(x, 1, NONE, NONE);
        x.wipe(1);
        callSo(x, 0, 0, 0);
        x.wipe(0);
        callSo(x, 0, NONE, NONE);
        // without it another would count, and the hole is out as well
        HoleBank y = Due.bank("r550", "r559");
        y.loan(0, 0, 0, 9);
        y.loan(1, 0, 0, 9);
        callSo(y, 0, 0, 9);
        callSo(y, 1, 0, 0);
    }

    private static void ease() {
        due.says("EASE: what it was. BAD.");
        HoleBank x = new HoleBank();
        for (int v : new int[] {-1, 9, MIN, MAX}) due.is("ease " + v, x.ease(v), BAD);
        due.is("2 at first", x.ease(8), 2);
        due.is("the most", x.ease(0), 8);
        due.is("the least", x.ease(9), BAD);
        due.is("a refused one is not taken", x.ease(-1), BAD);
        due.is("a refused one is not taken", x.ease(0), 0);
    }

    private static void serves() {
        due.says("WORKS that a HOLE SERVES behind a DAY, at the bank or not, as bits. BAD.");
        HoleBank x = Due.bank("r550;s110", "a551;a551;a551;a551;a551;a551;a551;r551");
        for (int hole : new int[] {-1, 2, 7, 8, MIN, MAX}) due.is("hole " + hole, x.serves(0, hole), BAD);
        due.is("all", x.serves(0, 0), 255);
        due.is("none", x.serves(0, 1), 0);
        x.loan(0, 0, 0, 9);
        due.is("it is out", x.serves(0, 0), 255);
        x.wipe(1);
        due.is("no works", x.serves(0, 0), 0);
        due.is("no holes", new HoleBank().serves(0, 0), BAD);
    }

    private static void best() {
        due.says("BEST: how much (i = NONE), the HOLE for the i-th WORK (0 to 7; NONE). BAD.");
        HoleBank x = Due.bank("r550", "r551");
        for (int i : new int[] {-2, 8, MIN, MAX}) due.is("i " + i, x.best(0, i), BAD);
        for (int day : new int[] {-1, 40, MIN, MAX}) due.is("day " + day, x.best(day, NONE), BAD);
        bestSo(x, 0, 1, 0);
        bestSo(x, 39, 1, 0);
    }

    private static void mend() {
        due.says("MEND: how many (i = NONE), the i-th (0 to 2; NONE); NONE. BAD.");
        HoleBank x = Due.bank("r950;r950", "r451");
        for (int i : new int[] {-2, 3, MIN, MAX}) due.is("i " + i, x.mend(0, 0, i), BAD);
        for (int work : new int[] {-1, 1, 7, 8, MIN, MAX}) due.is("work " + work, x.mend(work, 0, 0), BAD);
        for (int day : new int[] {-1, 40, MIN, MAX}) due.is("day " + day, x.mend(0, day, NONE), BAD);
        mendSo(x, 0, 0, 3, 0, 0, 0);
        x.wipe(1);
        due.is("no works", x.mend(0, 0, NONE), BAD);
    }

    private static void call() {
        due.says("CALL: which (what = 0), how much more (1), as any number; NONE. BAD: -1002.");
        HoleBank x = Due.bank("r550", "r551");
        x.loan(39, 0, 0, 9);
        for (int what : new int[] {-1, 2, MIN, MAX}) due.is("what " + what, x.call(39, what), ANY_BAD);
        for (int day : new int[] {-1, 40, MIN, MAX}) {
            for (int what = 0; what < 2; what++) due.is("day " + day, x.call(day, what), ANY_BAD);
        }
        callSo(x, 0, NONE, NONE);
        callSo(x, 39, 0, 1);
    }
}
