/** The edges of days, loans, fillings and patches, of part 2, and of promises 8 to 11 and 14 to 18. */
public final class DayEdgesTest {
    private static final int NONE = HoleBank.NONE, BAD = HoleBank.BAD, NOT = HoleBank.NOT, FULL = HoleBank.FULL;
    private static final int ANY_BAD = -1002;
    private static final int MIN = Integer.MIN_VALUE, MAX = Integer.MAX_VALUE;
    private static final String EIGHT = "r991;s991;l991;r991;s991;l991;r991;s991";

    private static final Due due = new Due();

    public static void main(String[] args) {
        grows();
        days();
        loansAreTwelve();
        loansAreOf();
        fillings();
        patches();
        loansOfADay();
        loansOfHolesThatThereAreNot();
        fillingsOfADay();
        patchesOfADay();
        daysOut();
        comeBack();
        whoHasIt();
        vault();
        filled();
        ofALoan();
        didNotComeBack();
        breaches();
        first();
        loan();
        fill();
        patch();
        back();
        is();
        behind();
        came();
        breachesOf();
        due.end();
    }

    private static void so(HoleBank x, int day, int hole, int wide, int deep) {
        due.is("wide, day " + day + ", hole " + hole, x.is(day, hole, 0), wide);
        due.is("deep, day " + day + ", hole " + hole, x.is(day, hole, 1), deep);
    }

    private static void grows() {
        due.says("A round hole GROWS by 1 WIDE, a square one too, but is 1 less DEEP (1 at least), a long one by 1 DEEP;"
            + " none beyond 9.");
        HoleBank x = Due.bank("r791;s731;l171;s121;s921;l911", "");
        for (int h = 0; h < 6; h++) x.loan(1, h, 0, 9);
        int[][][] want = {
            {{7, 9}, {8, 9}, {9, 9}, {9, 9}}, {{7, 3}, {8, 2}, {9, 1}, {9, 1}}, {{1, 7}, {1, 8}, {1, 9}, {1, 9}},
            {{1, 2}, {2, 1}, {3, 1}, {4, 1}}, {{9, 2}, {9, 1}, {9, 1}, {9, 1}}, {{9, 1}, {9, 2}, {9, 3}, {9, 4}}
        };
        for (int h = 0; h < 6; h++) {
            for (int day = 0; day < 4; day++) so(x, day, h, want[h][day][0], want[h][day][1]);
        }
    }

    private interface OnDay {
        long of(HoleBank x, int day);
    }

    private static void dayOf(String call, long refusal, OnDay act) {
        HoleBank x = Due.bank("r551", "r355");
        x.sheet(0, 2, 1);
        x.loan(0, 0, 0, 1);
        for (int day : new int[] {-1, 40, MIN, MAX}) due.is(call + " on day " + day, act.of(x, day), refusal);
        for (int day : new int[] {0, 39}) due.holds(call + " on day " + day + " is taken", act.of(x, day) >= NONE);
    }

    private static void days() {
        due.says("DAYS are 0 to 39.");
        dayOf("loan", BAD, (x, day) -> x.loan(day, 0, 0, 1));
        dayOf("fill", BAD, (x, day) -> x.fill(day, 0));
        dayOf("patch", BAD, (x, day) -> x.patch(day, 0));
        dayOf("is", BAD, (x, day) -> x.is(day, 0, 0));
        dayOf("behind", BAD, (x, day) -> x.behind(day, 0));
        dayOf("serves", BAD, (x, day) -> x.serves(day, 0));
        dayOf("best", BAD, (x, day) -> x.best(day, 0));
        dayOf("mend", BAD, (x, day) -> x.mend(0, day, 0));
        dayOf("call", ANY_BAD, (x, day) -> x.call(day, 0));
        dayOf("seen", BAD, (x, day) -> x.seen(day, 0, 0));
        dayOf("look", BAD, (x, day) -> x.look(day));
        dayOf("moths", Long.MIN_VALUE + 2, (x, day) -> x.moths(0, day, 0, 0));
        dayOf("write", BAD, (x, day) -> x.write(day, 0));
    }

    private static void loansAreTwelve() {
        due.says("LOANS, 12 at most (0 on)");
        HoleBank x = Due.bank("r110", "");
        due.is("none", x.came(0, 0), ANY_BAD);
        for (int n = 1; n <= 12; n++) {
            due.is("loan " + n, x.loan(3 * n, 0, 0, 1), n);
            due.is("the last of them", x.came(n - 1, 0), 1);
            due.is("beyond the last", x.came(n, 0), ANY_BAD);
        }
        due.is("loan 13", x.loan(1, 0, 0, 1), FULL);
        due.is("loans", x.count(4), 12);
        due.is("loan 12 is none", x.came(12, 0), ANY_BAD);
        due.is("the 13th never was", x.count(5), 12);
    }

    private static void loansAreOf() {
        due.says("on a DAY a HOLE (0 to 7) is lent to a PERSON (0 to 5) for so many DAYS (1 to 9)");
        HoleBank x = Due.bank(EIGHT, "");
        for (int hole : new int[] {-1, 8, MIN, MAX}) due.is("hole " + hole, x.loan(0, hole, 0, 1), BAD);
        for (int person : new int[] {-1, 6, MIN, MAX}) due.is("person " + person, x.loan(0, 0, person, 1), BAD);
        for (int n : new int[] {0, 10, -1, MIN, MAX}) due.is("for " + n, x.loan(0, 0, 0, n), BAD);
        due.is("the least", x.loan(2, 0, 0, 1), 1);
        due.is("the most", x.loan(2, 7, 5, 9), 2);
        due.is("for 1 day: back behind it", x.is(2, 0, 2), NONE);
        due.is("it counts", x.came(0, 0), 1);
        due.is("for 9 days: ahead", x.is(1, 7, 2), NONE);
        due.is("for 9 days: the first", x.is(2, 7, 2), 5);
        due.is("for 9 days: the eighth", x.is(9, 7, 2), 5);
        due.is("for 9 days: the ninth", x.is(10, 7, 2), NONE);
    }

    private static void fillings() {
        due.says("FILLINGS, 8 at most (0 on): on a DAY something is put in a HOLE (0 to 7).");
        HoleBank x = Due.bank(EIGHT, "");
        for (int hole : new int[] {-1, 8, MIN, MAX}) due.is("hole " + hole, x.fill(0, hole), BAD);
        for (int h = 0; h < 8; h++) x.loan(0, h, 0, 9);
        for (int n = 1; n <= 8; n++) {
            due.is("filling " + n, x.fill(n - 1, n - 1), n);
            due.is("it is filled", x.behind(n - 1, 1), (1 << n) - 1);
        }
        due.is("a ninth", x.fill(0, 7), FULL);
        due.is("it never was", x.behind(6, 1), 127);
        due.is("fillings and patches", x.count(6), 8);
    }

    private static void patches() {
        due.says("PATCHES, 8 at most (0 on): on a DAY a HOLE (0 to 7) is patched.");
        HoleBank x = Due.bank(EIGHT, "");
        for (int hole : new int[] {-1, 8, MIN, MAX}) due.is("hole " + hole, x.patch(0, hole), BAD);
        for (int n = 1; n <= 8; n++) {
            due.is("patch " + n, x.patch(n - 1, n - 1), n);
            due.is("the day ahead", n == 1 ? 9 : x.is(n - 2, n - 1, 0), 9);
            due.is("it is patched", x.is(n - 1, n - 1, 0), 8);
        }
        due.is("a ninth", x.patch(0, 0), FULL);
        due.is("it never was", x.is(39, 0, 0), 8);
        due.is("fillings and patches", x.count(6), 8);
    }

    private static void counts(HoleBank x, int... want) {
        for (int l = 0; l < want.length; l++) due.is("loan " + l + " counts", x.came(l, 0), want[l]);
    }

    private static void loansOfADay() {
        due.says("On a DAY first LOANS of that DAY are looked at, as told: one counts, if the HOLE is there, and at the bank.");
        HoleBank x = Due.bank("r550;r550", "");
        x.loan(4, 0, 1, 1);
        x.loan(3, 0, 2, 1);
        x.loan(3, 0, 3, 1);
        x.loan(4, 0, 4, 1);
        counts(x, 1, 1, 0, 0);
        // on the day on which it comes back it is still out when loans are looked at; a day later it is at the bank
        HoleBank y = Due.bank("r550;r550", "");
        y.loan(0, 0, 1, 3);
        y.loan(2, 0, 2, 1);
        y.loan(3, 0, 3, 1);
        y.loan(2, 1, 4, 1);
        counts(y, 1, 0, 1, 1);
        due.is("who has it", y.is(2, 0, 2), NONE);
        // a loan that does not count does not keep the hole
        HoleBank z = Due.bank("r550", "");
        z.loan(0, 0, 1, 2);
        z.loan(1, 0, 2, 9);
        z.loan(2, 0, 3, 9);
        counts(z, 1, 0, 1);
        due.is("who has it", z.is(2, 0, 2), 3);
    }

    private static void loansOfHolesThatThereAreNot() {
        due.says("one counts, if the HOLE is there, and at the bank");
        HoleBank x = Due.bank("r550", "");
        x.loan(0, 1, 0, 9);
        x.loan(0, 7, 0, 9);
        counts(x, 0, 0);
        Due.type(x, 0, ";r550");
        counts(x, 1, 0);
        due.is("now it is out", x.is(0, 1, 2), 0);
        x.wipe(0);
        counts(x, 0, 0);
    }

    private static void fillingsOfADay() {
        due.says("Then FILLINGS: a HOLE that there is is FILLED (at the bank nothing comes of that: it is emptied at once).");
        HoleBank x = Due.bank("r550;r550;r550", "");
        x.loan(2, 0, 0, 3);
        x.loan(2, 1, 0, 3);
        x.fill(1, 0);
        x.fill(2, 1);
        x.fill(2, 2);
        x.fill(2, 3);
        x.fill(2, 7);
        due.is("at the bank, the day ahead", x.behind(1, 1), 0);
        due.is("on the day on which it is lent", x.behind(2, 1), 2);
        due.is("it stays filled", x.behind(3, 1), 2);
        due.is("until it comes back", x.behind(4, 1), 0);
        due.is("filled at the bank: no breach", x.came(0, 1), 0);
        due.is("filled on the day on which it is lent: one", x.came(1, 1), 1);
        HoleBank y = Due.bank("r550", "");
        y.loan(0, 0, 0, 2);
        y.fill(2, 0);
        due.is("on the day behind its return: no breach", y.came(0, 1), 0);
        y.fill(1, 0);
        due.is("on the day of its return: one", y.came(0, 1), 1);
        due.is("and it is empty then", y.behind(1, 1), 0);
    }

    private static void patchesOfADay() {
        due.says("Then PATCHES: one that is at the bank is 1 less WIDE (1 at least).");
        HoleBank x = Due.bank("r350;r550", "");
        for (int n = 0; n < 3; n++) x.patch(3, 0);
        so(x, 2, 0, 3, 5);
        so(x, 3, 0, 1, 5);
        so(x, 39, 0, 1, 5);
        x.patch(4, 0);
        so(x, 4, 0, 1, 5);
        x.loan(5, 1, 0, 3);
        for (int day = 4; day <= 7; day++) x.patch(day, 1);
        so(x, 4, 1, 4, 5);
        so(x, 5, 1, 4, 5);
        so(x, 7, 1, 4, 5);
        x.back(2);
        x.patch(8, 1);
        so(x, 8, 1, 3, 5);
        HoleBank all = Due.bank("l990", "");
        for (int n = 0; n < 8; n++) all.patch(0, 0);
        so(all, 0, 0, 1, 9);
        HoleBank none = Due.bank("r110", "");
        none.patch(0, 1);
        none.patch(0, 7);
        so(none, 39, 0, 1, 1);
    }

    private static void daysOut() {
        due.says("Then each that is out: its DAYS out by that LOAN are one more; if it GROWS on that, it does.");
        HoleBank x = Due.bank("r112;r113;r119;r111", "");
        x.loan(0, 0, 0, 1);
        x.loan(1, 0, 0, 1);
        x.loan(2, 0, 0, 2);
        so(x, 2, 0, 1, 1);
        so(x, 3, 0, 2, 1);
        x.loan(0, 1, 0, 2);
        x.loan(2, 1, 0, 3);
        so(x, 3, 1, 1, 1);
        so(x, 4, 1, 2, 1);
        x.loan(0, 2, 0, 8);
        x.loan(8, 2, 0, 9);
        so(x, 15, 2, 1, 1);
        so(x, 16, 2, 2, 1);
        x.loan(39, 3, 0, 9);
        so(x, 38, 3, 1, 1);
        so(x, 39, 3, 2, 1);
    }

    private static void comeBack() {
        due.says("Then those whose DAYS are over come back; if one is FILLED, that is a BREACH of that LOAN, and it is emptied.");
        HoleBank x = Due.bank("r551;r550", "");
        x.loan(0, 0, 3, 2);
        x.loan(2, 0, 4, 2);
        x.loan(0, 1, 5, 1);
        x.fill(0, 0);
        x.fill(1, 0);
        x.fill(0, 1);
        due.is("still out, filled", x.behind(0, 1), 1);
        due.is("back, emptied", x.behind(1, 1), 0);
        due.is("a breach", x.came(0, 1), 1);
        due.is("none of the next loan", x.came(1, 1), 0);
        due.is("of a day", x.came(2, 1), 1);
        due.is("filled twice, one breach", x.breaches(3), 1);
        due.is("it has grown on the day on which it came back", x.is(1, 0, 0), 7);
        due.is("it is back", x.is(1, 0, 2), NONE);
    }

    private static void whoHasIt() {
        due.says("how WIDE, how DEEP a HOLE is; who has it; NONE: the bank");
        HoleBank x = Due.bank("r550;r550", "");
        x.loan(1, 0, 0, 2);
        x.loan(1, 1, 5, 2);
        for (int h = 0; h < 2; h++) {
            due.is("the day ahead", x.is(0, h, 2), NONE);
            due.is("out", x.is(1, h, 2), h * 5);
            due.is("back", x.is(2, h, 2), NONE);
        }
    }

    private static void vault() {
        due.says("VAULT: WIDE times DEEP of all at the bank, together");
        due.is("no holes", new HoleBank().behind(0, 0), 0);
        HoleBank x = Due.bank(EIGHT, "");
        due.is("all, as great as can be", x.behind(39, 0), 8 * 81);
        for (int h = 0; h < 8; h++) {
            x.loan(0, h, 0, 2);
            due.is("without " + (h + 1), x.behind(0, 0), (7 - h) * 81);
        }
        due.is("all are out", x.behind(0, 0), 0);
        due.is("all are back, square ones less deep by 2", x.behind(1, 0), 5 * 81 + 3 * 63);
    }

    private static void filled() {
        due.says("HOLES that are FILLED, as bits");
        HoleBank x = Due.bank(EIGHT, "");
        due.is("none", x.behind(0, 1), 0);
        for (int h = 0; h < 8; h++) {
            x.loan(0, h, 0, 2);
            x.fill(0, h);
            due.is("up to " + h, x.behind(0, 1), (2 << h) - 1);
        }
        due.is("all came back", x.behind(1, 1), 0);
        due.is("no holes", new HoleBank().behind(0, 1), 0);
    }

    private static void ofALoan() {
        due.says("Of a LOAN by DAY 39: whether it counts; whether it is a BREACH; by how much WIDE times DEEP of its HOLE was"
            + " more when it came back than when it was lent (perhaps less; 0: it did not come back).");
        HoleBank x = Due.bank("r111;r111;s991;l111;r110;r991", "");
        x.loan(31, 0, 0, 9);
        x.loan(32, 1, 0, 9);
        x.loan(31, 2, 0, 9);
        x.loan(39, 3, 0, 1);
        x.loan(39, 4, 0, 2);
        x.loan(0, 5, 0, 9);
        x.loan(0, 5, 0, 1);
        for (int h = 0; h < 5; h++) x.fill(39, h);
        cameSo(x, 0, 1, 1, 8);
        cameSo(x, 1, 1, 0, 0);
        cameSo(x, 2, 1, 1, 9 - 81);
        cameSo(x, 3, 1, 1, 1);
        cameSo(x, 4, 1, 0, 0);
        cameSo(x, 5, 1, 0, 0);
        cameSo(x, 6, 0, 0, 0);
    }

    private static void didNotComeBack() {
        due.says("(perhaps less; 0: it did not come back)");
        HoleBank x = Due.bank("r551", "");
        x.loan(0, 0, 0, 2);
        x.fill(0, 0);
        cameSo(x, 0, 1, 1, 10);
        x.back(0);
        x.loan(39, 0, 0, 2);
        cameSo(x, 0, 1, 0, 0);
        x.back(0);
        x.loan(38, 0, 0, 2);
        cameSo(x, 0, 1, 0, 10);
        x.wipe(0);
        cameSo(x, 0, 0, 0, 0);
    }

    private static void cameSo(HoleBank x, int loan, int counts, int breach, int more) {
        due.is("counts, loan " + loan, x.came(loan, 0), counts);
        due.is("breach, loan " + loan, x.came(loan, 1), breach);
        due.is("more, loan " + loan, x.came(loan, 2), more);
    }

    private static void breaches() {
        due.says("BREACHES of a PERSON");
        HoleBank x = Due.bank("r110", "");
        for (int p = 0; p < 6; p++) due.is("none of " + p, x.breaches(p), 0);
        for (int day = 0; day < 12; day++) x.loan(day, 0, day < 8 ? 0 : 5, 1);
        for (int day = 0; day < 8; day++) {
            x.fill(day, 0);
            due.is("of 0", x.breaches(0), day + 1);
        }
        due.is("of 5", x.breaches(5), 0);
        x.back(1);
        x.fill(11, 0);
        due.is("of 0", x.breaches(0), 7);
        due.is("of 5", x.breaches(5), 1);
    }

    private static void first() {
        due.says("FIRST: the LOAN that is a BREACH on the least DAY, of like ones the least; NONE.");
        HoleBank x = Due.bank("r110;r110;r110", "");
        due.is("no loans", x.first(), NONE);
        x.loan(30, 0, 0, 9);
        x.loan(2, 1, 0, 7);
        x.loan(8, 2, 0, 1);
        x.loan(39, 1, 0, 1);
        x.loan(39, 2, 0, 2);
        due.is("no breach", x.first(), NONE);
        x.fill(39, 2);
        due.is("it does not come back by day 39", x.first(), NONE);
        x.fill(39, 1);
        due.is("on day 39", x.first(), 3);
        x.fill(30, 0);
        due.is("on day 38, though of a greater loan", x.first(), 0);
        x.fill(8, 2);
        due.is("on day 8", x.first(), 2);
        x.fill(3, 1);
        due.is("on day 8 too, and less", x.first(), 1);
    }

    private static void loan() {
        due.says("A LOAN more: how many. BAD; FULL.");
        HoleBank x = new HoleBank();
        for (int n = 1; n <= 12; n++) due.is("also where there are no holes", x.loan(39, 7, 5, 9), n);
        due.is("full", x.loan(39, 7, 5, 9), FULL);
        due.is("full, and day 40", x.loan(40, 7, 5, 9), BAD);
        due.is("full, and hole 8", x.loan(39, 8, 5, 9), BAD);
        due.is("full, and person 6", x.loan(39, 7, 6, 9), BAD);
        due.is("full, and for 10", x.loan(39, 7, 5, 10), BAD);
        due.is("full, and for 0", x.loan(39, 7, 5, 0), BAD);
        x.back(0);
        due.is("undone, and one more", x.loan(0, 0, 0, 1), 12);
    }

    private static void fill() {
        due.says("A FILLING more: how many. BAD; FULL.");
        HoleBank x = new HoleBank();
        for (int n = 1; n <= 8; n++) due.is("filling " + n, x.fill(39, 7), n);
        due.is("full", x.fill(39, 7), FULL);
        due.is("full, and day -1", x.fill(-1, 7), BAD);
        due.is("full, and hole -1", x.fill(39, -1), BAD);
        due.is("patches are not full", x.patch(0, 0), 1);
        x.back(1);
        due.is("undone, and one more", x.fill(0, 0), 8);
    }

    private static void patch() {
        due.says("A PATCH more: how many. BAD; FULL.");
        HoleBank x = new HoleBank();
        for (int n = 1; n <= 8; n++) due.is("patch " + n, x.patch(39, 7), n);
        due.is("full", x.patch(39, 7), FULL);
        due.is("full, and day -1", x.patch(-1, 7), BAD);
        due.is("full, and hole -1", x.patch(39, -1), BAD);
        due.is("fillings are not full", x.fill(0, 0), 1);
        x.back(2);
        due.is("undone, and one more", x.patch(0, 0), 8);
    }

    private static void back() {
        due.says("The last LOAN (what = 0), FILLING (1), PATCH (2) is undone: how many are left. BAD; NOT: there is none.");
        HoleBank x = Due.bank("r990", "");
        for (int what : new int[] {-1, 3, MIN, MAX}) due.is("what " + what, x.back(what), BAD);
        for (int what = 0; what < 3; what++) due.is("none of " + what, x.back(what), NOT);
        for (int n = 0; n < 12; n++) x.loan(n, 0, 0, 1);
        for (int n = 0; n < 8; n++) {
            x.fill(n, 0);
            x.patch(20 + n, 0);
        }
        for (int n = 11; n >= 0; n--) {
            due.is("loans left", x.back(0), n);
            due.is("the last of them is gone", x.came(n, 0), ANY_BAD);
            due.is("those ahead count", x.count(5), n);
        }
        due.is("no loan", x.back(0), NOT);
        for (int n = 7; n >= 0; n--) {
            due.is("patches left", x.back(2), n);
            due.is("the last of them is gone", x.is(39, 0, 0), 9 - n);
        }
        due.is("no patch", x.back(2), NOT);
        for (int n = 7; n >= 0; n--) due.is("fillings left", x.back(1), n);
        due.is("no filling", x.back(1), NOT);
        due.is("nothing is left", x.digest(), Due.bank("r990", "").digest());
    }

    private static void is() {
        due.says("How WIDE (what = 0), how DEEP (1) a HOLE is, who has it (2; NONE). BAD.");
        HoleBank x = Due.bank("r120;r340", "");
        for (int hole : new int[] {-1, 2, 7, 8, MIN, MAX}) due.is("hole " + hole, x.is(0, hole, 0), BAD);
        for (int what : new int[] {-1, 3, MIN, MAX}) due.is("what " + what, x.is(0, 0, what), BAD);
        due.is("the last hole", x.is(39, 1, 0), 3);
        due.is("the last hole", x.is(39, 1, 1), 4);
        due.is("the last hole", x.is(39, 1, 2), NONE);
        due.is("no holes", new HoleBank().is(0, 0, 0), BAD);
    }

    private static void behind() {
        due.says("VAULT (what = 0), FILLED, as bits (1). BAD.");
        HoleBank x = Due.bank("r120;r340", "");
        for (int what : new int[] {-1, 2, MIN, MAX}) due.is("what " + what, x.behind(0, what), BAD);
        for (int day : new int[] {-1, 40, MIN, MAX}) {
            for (int what = 0; what < 2; what++) due.is("day " + day, x.behind(day, what), BAD);
        }
        due.is("vault", x.behind(39, 0), 14);
        due.is("filled", x.behind(39, 1), 0);
    }

    private static void came() {
        due.says("Whether a LOAN counts (what = 0), is a BREACH (1), how much more came back (2), as any number. BAD: -1002.");
        HoleBank x = Due.bank("r110", "");
        for (int what = 0; what < 3; what++) due.is("no loans", x.came(0, what), ANY_BAD);
        x.loan(0, 0, 0, 1);
        for (int loan : new int[] {-1, 1, 12, MIN, MAX}) {
            for (int what = 0; what < 3; what++) due.is("loan " + loan, x.came(loan, what), ANY_BAD);
        }
        for (int what : new int[] {-1, 3, MIN, MAX}) due.is("what " + what, x.came(0, what), ANY_BAD);
        cameSo(x, 0, 1, 0, 0);
    }

    private static void breachesOf() {
        due.says("BREACHES of a PERSON. BAD.");
        HoleBank x = Due.bank("r110", "");
        x.loan(0, 0, 5, 1);
        x.fill(0, 0);
        for (int person : new int[] {-1, 6, MIN, MAX}) due.is("person " + person, x.breaches(person), BAD);
        for (int person = 0; person < 6; person++) due.is("person " + person, x.breaches(person), person / 5);
        due.says("FIRST; NONE.");
        due.is("first", x.first(), 0);
        x.back(1);
        due.is("none", x.first(), NONE);
    }
}
