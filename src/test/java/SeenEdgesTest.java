/** The edges of part 4 (seen, never, wrong, look), of moths, runs, fractions and lots, and of promises 23 to 28. */
public final class SeenEdgesTest {
    private static final int NONE = HoleBank.NONE, BAD = HoleBank.BAD, FULL = HoleBank.FULL;
    private static final long LONG_BAD = Long.MIN_VALUE + 2;
    private static final int MIN = Integer.MIN_VALUE, MAX = Integer.MAX_VALUE;
    private static final String EIGHT = "r110;r210;r310;r410;r510;r610;r710;r810";

    private static final Due due = new Due();

    public static void main(String[] args) {
        fractions();
        lots();
        sights();
        soWideOrOut();
        neverEach();
        wrongEach();
        lookLeast();
        lookAtWhatIsAlike();
        lookByThoseLoansAlone();
        lookWithoutHoles();
        holesThatThereAreNot();
        mothsMakeWider();
        mothsAtTheBank();
        runDays();
        runBehindAllOthers();
        runWithoutHoles();
        seen();
        forget();
        never();
        look();
        moths();
        run();
        due.end();
    }

    private static void mothsSo(HoleBank x, int c, int day, long above, long below) {
        due.is("moths, above, c " + c + ", day " + day, x.moths(c, day, 0, 0), above);
        due.is("moths, below, c " + c + ", day " + day, x.moths(c, day, 0, 1), below);
    }

    private static void fractions() {
        due.says("FRACTIONS are told in lowest terms, above and below (0 by 1).");
        HoleBank x = Due.bank("r450", "r551");
        int[] above = {0, 1, 1, 3, 1, 5, 3, 7, 1, 9, 5, 11, 3, 13, 7, 15, 1};
        int[] below = {1, 16, 8, 16, 4, 16, 8, 16, 2, 16, 8, 16, 4, 16, 8, 16, 1};
        for (int c = 0; c <= 16; c++) mothsSo(x, c, 0, above[c], below[c]);
        HoleBank all = Due.bank("r450;r450;r450;r450;r450;r450;r450;r450", "r551");
        mothsSo(all, 0, 0, 0, 1);
        mothsSo(all, 8, 0, 255, 256);
        mothsSo(all, 15, 0, 4294967295L, 4294967296L);
        mothsSo(all, 16, 0, 1, 1);
        mothsSo(Due.bank("", "r551"), 5, 0, 0, 1);
    }

    /** Reckoned with longs, so that a wrap of ints is not taken on trust. */
    private static long nextSeed(long seed) {
        long all = (1103515245L * seed + 12345L) & 0xffffffffL;
        return all >= 0x80000000L ? all - 0x100000000L : all;
    }

    private static int lot(long seed, int m) {
        return (int) (((seed & 0xffffffffL) >> 16) % m);
    }

    private static void lots() {
        due.says("LOTS of m: SEED becomes 1103515245 SEED and 12345, as ints that wrap; its upper 16 bits as a number from 0"
            + " on, modulo m.");
        int below0 = 0;
        for (int seed : new int[] {0, 1, -1, 2, 3, 7, 8, 100, -100, 65535, 65536, 123456789, MIN, MIN + 1, MAX, MAX - 1}) {
            for (int holes = 1; holes <= 8; holes++) {
                HoleBank x = Due.bank(EIGHT.substring(0, 5 * holes - 1), "");
                long first = nextSeed(seed), second = nextSeed(first);
                below0 += first < 0 ? 1 : 0;
                int which = lot(first, holes);
                boolean isBack = lot(second, 9) == 0;
                int want = holes * (holes + 1) / 2 - (isBack ? 0 : which + 1);
                due.is("seed " + seed + ", of " + holes, x.run(seed, 1, 0), want);
            }
        }
        due.holds("some of these seeds become less than 0", below0 > 0);
    }

    private static void sights() {
        due.says("SEEN, 8 at most: behind a DAY a HOLE (0 to 7) was so WIDE (1 to 9), or out (0).");
        HoleBank x = new HoleBank();
        for (int hole : new int[] {-1, 8, MIN, MAX}) due.is("hole " + hole, x.seen(0, hole, 1), BAD);
        for (int wide : new int[] {-1, 10, MIN, MAX}) due.is("wide " + wide, x.seen(0, 0, wide), BAD);
        due.is("the least", x.seen(0, 0, 0), 1);
        due.is("the most", x.seen(39, 7, 9), 2);
        due.is("the least that is wide", x.seen(0, 0, 1), 3);
        for (int n = 4; n <= 8; n++) due.is("seen " + n, x.seen(0, 0, 0), n);
        due.is("a ninth", x.seen(0, 0, 0), FULL);
        due.is("seen", x.count(7), 8);
    }

    private static int neverBy(HoleBank x, int day, int hole, int wide, int what) {
        x.forget();
        x.seen(day, hole, wide);
        return x.never(what);
    }

    private static void soWideOrOut() {
        due.says("was so WIDE (1 to 9), or out (0)");
        HoleBank x = Due.bank("r811;r110", "");
        x.loan(5, 0, 0, 2);
        x.loan(5, 0, 0, 3);
        x.loan(5, 1, 0, 1);
        due.is("day 4, 8 wide", neverBy(x, 4, 0, 8, 0), 7);
        due.is("day 4, 7 wide", neverBy(x, 4, 0, 7, 0), 0);
        due.is("day 4, out", neverBy(x, 4, 0, 0, 0), 0);
        due.is("day 5, out by one or the other", neverBy(x, 5, 0, 0, 0), 7);
        due.is("day 5, out, whatever its width", neverBy(x, 5, 0, 9, 0), 0);
        due.is("day 6, out by the second alone", neverBy(x, 6, 0, 0, 0), 1);
        due.is("day 6, back by the first, 9 wide", neverBy(x, 6, 0, 9, 0), 2 + 4);
        due.is("day 7, back, 9 wide", neverBy(x, 7, 0, 9, 0), 7);
        due.is("1 wide, the least", neverBy(x, 39, 1, 1, 0), 7);
    }

    private static void neverEach() {
        due.says("NEVER: LOANS each of which, had it alone not been told, makes all that was SEEN come out so, as bits.");
        HoleBank x = Due.bank("r991", "");
        due.is("no loans, nothing seen", x.never(0), 0);
        for (int n = 0; n < 12; n++) {
            x.loan(3 * n, 0, 0, 2);
            due.is("nothing seen: each", x.never(0), (2 << n) - 1);
        }
        for (int n = 0; n < 12; n++) due.is("day " + 3 * n, neverBy(x, 3 * n, 0, 9, 0), 1 << n);
        // all that was seen, not some of it
        x.forget();
        x.seen(0, 0, 9);
        x.seen(3, 0, 9);
        due.is("two at once: no one loan alone", x.never(0), 0);
        x.forget();
        for (int n = 0; n < 7; n++) x.seen(3 * n, 0, 0);
        x.seen(33, 0, 9);
        due.is("eight seen, the last tells", x.never(0), 1 << 11);
        due.is("all loans are still told", x.count(4), 12);
        due.is("and count", x.count(5), 12);
    }

    private static void wrongEach() {
        due.says("WRONG: PATCHES likewise.");
        HoleBank x = Due.bank("r990", "");
        due.is("no patches", x.never(1), 0);
        for (int n = 0; n < 8; n++) {
            x.patch(4 * n, 0);
            due.is("nothing seen: each", x.never(1), (2 << n) - 1);
        }
        due.is("by the last day all are alike", neverBy(x, 39, 0, 2, 1), 255);
        due.is("none is wrong", neverBy(x, 39, 0, 1, 1), 0);
        due.is("on day 0: the first", neverBy(x, 0, 0, 9, 1), 1);
        due.is("on day 0: all others", neverBy(x, 0, 0, 8, 1), 254);
        due.is("on day 28: none", neverBy(x, 28, 0, 1, 1), 0);
        x.forget();
        x.seen(27, 0, 2);
        x.seen(28, 0, 2);
        due.is("the last", x.never(1), 128);
        due.is("all patches are still told", x.is(39, 0, 0), 1);
    }

    private static void lookLeast() {
        due.says("LOOK of a DAY: the HOLE of which the greatest number of those LOANS by which it is alike (so WIDE, or out)"
            + " behind that DAY is least, of like ones the least");
        HoleBank x = Due.bank("r110;r551;r551;r551", "");
        due.is("no loans: all are alike, the least", x.look(0), 0);
        x.loan(5, 2, 0, 1);
        x.loan(5, 3, 0, 1);
        // day 5: hole 2 is 5 or 6 wide, and so is hole 3: of like ones the least; ahead of it none tells anything
        due.is("day 5", x.look(5), 2);
        due.is("day 4", x.look(4), 0);
        due.is("day 39", x.look(39), 2);
        x.loan(0, 3, 0, 2);
        // hole 3 is 8, 7, 6 wide by the three; hole 2 is 5, 6, 6
        due.is("day 5 by three", x.look(5), 3);
        // on day 0: hole 3 is out by two of the three
        due.is("day 0 by three", x.look(0), 3);
        x.seen(0, 3, 5);
        due.is("one is left: of like ones the least", x.look(5), 0);
        x.seen(0, 3, 6);
        due.is("none is left: of like ones the least", x.look(5), 0);
        // a sight of a later day than that which is asked for counts as well
        HoleBank y = Due.bank("r110;r551;r551", "");
        y.loan(0, 1, 0, 1);
        y.loan(1, 2, 0, 1);
        y.loan(2, 2, 0, 1);
        due.is("day 0: hole 1 tells one from two", y.look(0), 1);
        y.seen(39, 1, 6);
        due.is("day 0: those that are left are alike", y.look(0), 0);
        due.is("day 1: hole 2 tells them apart", y.look(1), 2);
    }

    private static void lookAtWhatIsAlike() {
        due.says("by which it is alike (so WIDE, or out) behind that DAY");
        // hole 0 is 9 wide, or out, by all of them alike: hole 1 tells more
        HoleBank nine = Due.bank("r910;r551", "");
        nine.loan(0, 1, 0, 1);
        nine.loan(2, 1, 0, 2);
        due.is("9 wide", nine.look(5), 1);
        HoleBank out = Due.bank("r510;r551", "");
        out.loan(0, 0, 0, 9);
        out.loan(0, 0, 0, 9);
        out.loan(0, 1, 0, 1);
        due.is("out by each: three are alike, against two", out.look(0), 1);
        // 9 wide is not alike to the next hole's being out
        HoleBank next = Due.bank("r811;r550;r551", "");
        next.loan(0, 0, 0, 1);
        next.loan(0, 1, 0, 9);
        next.loan(0, 2, 0, 1);
        due.is("by each hole two are alike", next.look(5), 0);
    }

    private static void lookByThoseLoansAlone() {
        due.says("the greatest number of those LOANS by which it is alike");
        // that all were told as they were is no loan of those: it would make hole 0 alike by three
        HoleBank x = Due.bank("r551;r551", "");
        x.loan(0, 0, 0, 1);
        x.loan(0, 1, 0, 1);
        x.loan(2, 1, 0, 1);
        due.is("by each hole two are alike", x.look(5), 0);
        HoleBank full = Due.bank("r110;r110", "");
        for (int n = 0; n < 12; n++) full.loan(39, 7, 0, 1);
        due.is("all twelve are alike", full.look(0), 0);
    }

    private static void lookWithoutHoles() {
        due.says("of like ones the least; NONE: there are no HOLES");
        HoleBank x = new HoleBank();
        due.is("no holes", x.look(0), NONE);
        x.loan(0, 0, 0, 9);
        x.seen(0, 0, 0);
        due.is("no holes, but a loan", x.look(39), NONE);
        Due.type(x, 0, "r110");
        due.is("one hole", x.look(39), 0);
        x.undo(0);
        due.is("a fault", x.look(0), NONE);
    }

    private static void holesThatThereAreNot() {
        due.says("(A HOLE that there is not is never SEEN.)");
        HoleBank x = Due.bank("r110", "");
        x.loan(0, 0, 0, 1);
        x.patch(0, 0);
        for (int wide = 0; wide <= 9; wide++) {
            for (int hole : new int[] {1, 7}) {
                due.is("hole " + hole + ", " + wide, neverBy(x, 0, hole, wide, 0), 0);
                due.is("hole " + hole + ", " + wide, neverBy(x, 0, hole, wide, 1), 0);
            }
        }
        due.is("it may be told all the same", x.count(7), 1);
        x.forget();
        x.seen(0, 1, 3);
        Due.type(x, 0, ";r310");
        due.is("now there is that hole", x.never(0), 1);
        due.is("now there is that hole", x.never(1), 1);
    }

    private static void mothsMakeWider() {
        due.says("MOTHS: behind a DAY each HOLE at the bank is 1 WIDER (to 9) by c sixteenths (0 to 16), by itself");
        mothsSo(Due.bank("r850", "r951"), 0, 0, 0, 1);
        mothsSo(Due.bank("r850", "r951"), 16, 0, 1, 1);
        mothsSo(Due.bank("r850", "r951"), 3, 0, 3, 16);
        mothsSo(Due.bank("r950", "r951"), 0, 0, 1, 1);
        mothsSo(Due.bank("r950", "r951"), 16, 0, 1, 1);
        mothsSo(Due.bank("r950", "r751"), 16, 0, 1, 1);
        mothsSo(Due.bank("r950", "r751"), 5, 0, 1, 1);
        // what serves as it is may be too wide then
        mothsSo(Due.bank("r750", "r551"), 16, 0, 0, 1);
        mothsSo(Due.bank("r750", "r551"), 5, 0, 11, 16);
        mothsSo(Due.bank("r750;r750", "r551"), 15, 0, 31, 256);
        // wider, not deeper; and by 1 alone
        mothsSo(Due.bank("r850", "r961"), 16, 0, 0, 1);
        mothsSo(Due.bank("l750", "a951"), 16, 0, 0, 1);
        // by itself: one serves if it is eaten, the other if it is not
        mothsSo(Due.bank("r450;r750", "r551"), 4, 0, 13, 16);
    }

    private static void mothsAtTheBank() {
        due.says("the chance that some HOLE at the bank SERVES a WORK then: a FRACTION");
        HoleBank x = Due.bank("r450;r450", "r551");
        x.loan(1, 0, 0, 2);
        x.loan(1, 1, 0, 3);
        mothsSo(x, 8, 0, 3, 4);
        mothsSo(x, 8, 1, 0, 1);
        mothsSo(x, 8, 2, 1, 2);
        mothsSo(x, 8, 3, 3, 4);
        mothsSo(x, 8, 39, 3, 4);
        due.is("nothing comes of asking", x.is(39, 0, 0), 4);
    }

    private static void runDays() {
        due.says("RUN by a SEED: on each of n (1 to 40) DAYS from 0 on a LOT of HOLES, a LOT of 9: that one is lent on that"
            + " DAY for that and 1 DAYS");
        for (int seed : new int[] {0, 5, -9, MAX}) {
            HoleBank x = Due.bank("r991", "");
            long s = seed;
            int free = 0, counted = 0;
            for (int n = 1; n <= 40; n++) {
                int day = n - 1;
                s = nextSeed(nextSeed(s));
                if (free <= day) {
                    free = day + lot(s, 9) + 1;
                    counted++;
                }
                due.is("seed " + seed + ", n " + n + ", vault", x.run(seed, n, 0), free == day + 1 ? 81 : 0);
                due.is("seed " + seed + ", n " + n + ", how many", x.run(seed, n, 1), counted);
            }
            due.is("n 0", x.run(seed, 0, 0), BAD);
            due.is("n 41", x.run(seed, 41, 0), BAD);
        }
    }

    private static void runBehindAllOthers() {
        due.says("told behind all others, to PERSON 0 (no LOTS where there are no HOLES): VAULT behind the last of these;"
            + " how many of these count");
        HoleBank x = Due.bank("r550", "");
        due.is("alone, on day 0", x.run(0, 1, 1), 1);
        x.loan(0, 0, 0, 1);
        due.is("the one that was told goes ahead", x.run(0, 1, 1), 0);
        due.is("and comes back", x.run(0, 1, 0), 25);
        for (int n = 1; n < 12; n++) x.loan(n, 0, 0, 1);
        due.is("twelve are told", x.loan(12, 0, 0, 1), FULL);
        due.is("none of those of their days counts", x.run(0, 12, 1), 0);
        due.is("that of day 12 does", x.run(0, 13, 1), 1);
        due.is("nothing was kept", x.count(4), 12);
        due.is("nothing was kept", x.is(12, 0, 2), NONE);
        due.is("those that were told still count", x.count(5), 12);
    }

    private static void runWithoutHoles() {
        due.says("(no LOTS where there are no HOLES)");
        HoleBank x = new HoleBank();
        x.loan(0, 0, 0, 9);
        for (int n : new int[] {1, 40}) {
            due.is("vault", x.run(5, n, 0), 0);
            due.is("how many", x.run(5, n, 1), 0);
        }
        for (int n : new int[] {0, 41}) due.is("n " + n, x.run(5, n, 0), BAD);
        due.is("what 2", x.run(5, 1, 2), BAD);
    }

    private static void seen() {
        due.says("SEEN more: how many. BAD; FULL.");
        HoleBank x = new HoleBank();
        for (int n = 1; n <= 8; n++) due.is("seen " + n, x.seen(39, 7, 9), n);
        due.is("full", x.seen(39, 7, 9), FULL);
        due.is("full, and day 40", x.seen(40, 7, 9), BAD);
        due.is("full, and hole 8", x.seen(39, 8, 9), BAD);
        due.is("full, and wide 10", x.seen(39, 7, 10), BAD);
        due.is("full, and wide -1", x.seen(39, 7, -1), BAD);
    }

    private static void forget() {
        due.says("All SEEN are forgotten: how many.");
        HoleBank x = Due.bank("r110", "");
        x.loan(0, 0, 0, 1);
        due.is("none", x.forget(), 0);
        for (int n = 1; n <= 8; n++) x.seen(0, 0, 9);
        due.is("not so", x.never(0), 0);
        due.is("eight", x.forget(), 8);
        due.is("none", x.forget(), 0);
        due.is("nothing is seen", x.never(0), 1);
        due.is("it is not full any more", x.seen(0, 0, 1), 1);
    }

    private static void never() {
        due.says("NEVER (what = 0), WRONG (1), as bits. BAD.");
        HoleBank x = Due.bank("r110", "");
        for (int what : new int[] {-1, 2, MIN, MAX}) due.is("what " + what, x.never(what), BAD);
        x.loan(0, 0, 0, 1);
        due.is("loans", x.never(0), 1);
        due.is("patches", x.never(1), 0);
        x.back(0);
        x.patch(0, 0);
        due.is("loans", x.never(0), 0);
        due.is("patches", x.never(1), 1);
    }

    private static void look() {
        due.says("LOOK; NONE. BAD.");
        HoleBank x = Due.bank("r110", "");
        for (int day : new int[] {-1, 40, MIN, MAX}) due.is("day " + day, x.look(day), BAD);
        due.is("day 0", x.look(0), 0);
        due.is("day 39", x.look(39), 0);
        due.is("no holes", new HoleBank().look(39), NONE);
        due.is("no holes, and day 40", new HoleBank().look(40), BAD);
    }

    private static void moths() {
        due.says("MOTHS: above, below. BAD. (As the least long.)");
        HoleBank x = Due.bank("r450", "r551;r451");
        for (int c : new int[] {-1, 17, MIN, MAX}) due.is("c " + c, x.moths(c, 0, 0, 0), LONG_BAD);
        for (int day : new int[] {-1, 40, MIN, MAX}) due.is("day " + day, x.moths(0, day, 0, 0), LONG_BAD);
        for (int work : new int[] {-1, 2, 8, MIN, MAX}) due.is("work " + work, x.moths(0, 0, work, 0), LONG_BAD);
        for (int what : new int[] {-1, 2, MIN, MAX}) due.is("what " + what, x.moths(0, 0, 0, what), LONG_BAD);
        due.is("the last work, above", x.moths(0, 39, 1, 0), 1);
        due.is("the last work, below", x.moths(16, 39, 1, 1), 1);
        x.wipe(1);
        due.is("no works", x.moths(0, 0, 0, 0), LONG_BAD);
    }

    private static void run() {
        due.says("RUN: VAULT (what = 0), how many (1). BAD.");
        HoleBank x = Due.bank("r110", "");
        for (int n : new int[] {0, -1, 41, MIN, MAX}) due.is("n " + n, x.run(0, n, 0), BAD);
        for (int what : new int[] {-1, 2, MIN, MAX}) due.is("what " + what, x.run(0, 1, what), BAD);
        for (int seed : new int[] {MIN, -1, 0, 1, MAX}) due.is("seed " + seed, x.run(seed, 1, 1), 1);
    }
}
