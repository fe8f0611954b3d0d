/** The edges that the document names where it speaks of texts, and in promises 1 to 7: a test for each sentence. */
public final class TextEdgesTest {
    private static final int NONE = HoleBank.NONE, BAD = HoleBank.BAD, NOT = HoleBank.NOT, FULL = HoleBank.FULL;
    private static final int NULL = -11;
    private static final int MIN = Integer.MIN_VALUE, MAX = Integer.MAX_VALUE;
    private static final int[] NO_TEXTS = {-1, 2, MIN, MAX};
    private static final String[] FULL_TEXTS = {
        "r110;s220;l331;r449;s559;l669;r779;s889", "r101;s202;l393;a404;r505;s606;l797;a999"
    };

    private static final Due due = new Due();

    public static void main(String[] args) {
        holesAreAText();
        holesAreEight();
        holesHaveSemicolons();
        holesHaveFigures();
        holesGrow();
        calls();
        worksAreAText();
        worksAreEight();
        worksHaveSemicolons();
        worksHaveFigures();
        faultIsTheFirst();
        faultOfNothing();
        faultOfNinth();
        withAFaultAsIfEmpty();
        newObject();
        type();
        wipe();
        undo();
        fault();
        hole();
        work();
        due.end();
    }

    private static void upTo39(int text) {
        HoleBank x = new HoleBank();
        for (int n = 1; n <= 39; n++) due.is("byte " + n, x.type(text, 'r'), n);
        due.is("byte 40", x.type(text, 'r'), FULL);
        due.is("byte 40, another", x.type(text, ';'), FULL);
        due.is("bytes", x.count(2 + text), 39);
        due.is("bytes of the other", x.count(3 - text), 0);
    }

    private static void holesAreAText() {
        due.says("HOLES are a text of up to 39 bytes (text 0)");
        upTo39(0);
    }

    private static void holesAreEight() {
        due.says("8 at most (0 on), with ; between them: r (round)");
        due.is("no holes", new HoleBank().hole(0, 1), BAD);
        HoleBank x = new HoleBank();
        for (int n = 1; n <= 8; n++) {
            Due.type(x, 0, (n == 1 ? "" : ";") + "r" + n + "10");
            due.is("holes", x.count(0), n);
            for (int k = 0; k < n; k++) due.is("hole " + k + " of " + n, x.hole(k, 1), k + 1);
            due.is("hole " + n + " of " + n, x.hole(n, 1), BAD);
        }
        due.is("hole -1", x.hole(-1, 1), BAD);
    }

    private static int faultBehind(int text, String ahead, int b) {
        HoleBank x = text == 0 ? Due.bank(ahead, "") : Due.bank("", ahead);
        x.type(text, b);
        return x.fault(text);
    }

    /** Each byte that there is, behind some others: the fault is there, but for those by which it goes on. */
    private static void goesOnBy(int text, String ahead, String right, int faultThen) {
        for (int b = 0; b <= 255; b++) {
            int want = right.indexOf((char) b) >= 0 ? faultThen : ahead.length();
            due.is("fault of " + ahead + " and byte " + b, faultBehind(text, ahead, b), want);
        }
    }

    private static void holesHaveSemicolons() {
        due.says("with ; between them: r (round), s (square) or l (long), a figure, how WIDE");
        goesOnBy(0, "", "rsl", 1);
        goesOnBy(0, "r110", ";", 5);
        goesOnBy(0, "r110;", "rsl", 6);
        goesOnBy(0, "r110;s110", ";", 10);
    }

    private static void holesHaveFigures() {
        due.says("a figure, how WIDE (1 to 9), a figure, how DEEP (1 to 9), and a figure 0 to 9");
        goesOnBy(0, "s", "123456789", 2);
        goesOnBy(0, "s1", "123456789", 3);
        goesOnBy(0, "s19", "0123456789", NONE);
        goesOnBy(0, "l991;l9", "123456789", 8);
    }

    private static void holesGrow() {
        due.says("it GROWS on each so many-th DAY on which it is out (0: never)");
        for (int grows = 0; grows <= 9; grows++) {
            HoleBank x = Due.bank("r11" + grows, "");
            x.loan(0, 0, 0, 9);
            for (int day = 0; day < 12; day++) {
                int daysOut = Math.min(9, day + 1);
                int times = grows == 0 ? 0 : daysOut / grows;
                due.is("grows " + grows + ", day " + day, x.is(day, 0, 0), Math.min(9, 1 + times));
            }
        }
    }

    private static void calls() {
        due.says("An object is used for at most 512 calls after it has been made");
        HoleBank x = Due.bank("r351;s441", "r339;a457");
        HoleBank y = Due.bank("r351;s441", "r339;a457");
        for (int n = 18; n < 510; n += 2) {
            due.is("type", x.type(0, ';'), 10);
            due.is("undo", x.undo(0), 9);
        }
        due.is("call 511", x.loan(0, 0, 0, 2), 1);
        y.loan(0, 0, 0, 2);
        due.is("call 512", x.digest(), y.digest());
    }

    private static void worksAreAText() {
        due.says("WORKS are a text of up to 39 bytes (text 1)");
        upTo39(1);
    }

    private static void worksAreEight() {
        due.says("8 at most (0 on), with ; between them: r, s, l or a (any)");
        due.is("no works", new HoleBank().work(0, 1), BAD);
        HoleBank x = new HoleBank();
        for (int n = 1; n <= 8; n++) {
            Due.type(x, 1, (n == 1 ? "" : ";") + "a" + n + "01");
            due.is("works", x.count(1), n);
            for (int k = 0; k < n; k++) due.is("work " + k + " of " + n, x.work(k, 1), k + 1);
            due.is("work " + n + " of " + n, x.work(n, 1), BAD);
        }
        due.is("work -1", x.work(-1, 1), BAD);
    }

    private static void worksHaveSemicolons() {
        due.says("with ; between them: r, s, l or a (any), a figure, how WIDE (1 to 9)");
        goesOnBy(1, "", "rsla", 1);
        goesOnBy(1, "a101", ";", 5);
        goesOnBy(1, "a101;", "rsla", 6);
        goesOnBy(1, "a101;r101", ";", 10);
    }

    private static void worksHaveFigures() {
        due.says("a figure, how WIDE (1 to 9), a figure, how DEEP (0 to 9), and a figure, its WORTH (1 to 9)");
        goesOnBy(1, "a", "123456789", 2);
        goesOnBy(1, "a1", "0123456789", 3);
        goesOnBy(1, "a10", "123456789", NONE);
        goesOnBy(1, "l991;l9", "0123456789", 8);
    }

    private static void faultIsTheFirst() {
        due.says("The FAULT of a text is the place of the first byte with which it cannot go on");
        for (int text = 0; text < 2; text++) {
            for (int place = 0; place < 39; place++) {
                char[] bytes = FULL_TEXTS[text].toCharArray();
                bytes[place] = '!';
                due.is("text " + text + ", place " + place, faultOf(text, new String(bytes)), place);
                bytes[38] = '!';
                due.is("text " + text + ", place " + place + " and 38", faultOf(text, new String(bytes)), place);
                due.is("text " + text + ", up to " + place, faultOf(text, new String(bytes, 0, place + 1)), place);
            }
        }
    }

    private static int faultOf(int text, String bytes) {
        return (text == 0 ? Due.bank(bytes, "") : Due.bank("", bytes)).fault(text);
    }

    private static void faultOfNothing() {
        due.says("(an empty one is well; of one that is not ended, its end)");
        for (int text = 0; text < 2; text++) {
            due.is("of a new text " + text, new HoleBank().fault(text), NONE);
            for (int n = 0; n <= 39; n++) {
                boolean isEnded = n == 0 || n % 5 == 4;
                int want = isEnded ? NONE : n;
                due.is("text " + text + " of " + n, faultOf(text, FULL_TEXTS[text].substring(0, n)), want);
            }
            HoleBank x = Due.bank("r11", "a10");
            x.wipe(text);
            due.is("of a wiped text " + text, x.fault(text), NONE);
        }
    }

    /** A ninth would begin at place 40, and a text ends at 39: what can be seen is that none ever begins. */
    private static void faultOfNinth() {
        due.says("here also of the first byte of a ninth");
        HoleBank x = Due.bank(FULL_TEXTS[0], FULL_TEXTS[1]);
        for (int text = 0; text < 2; text++) {
            due.is("behind the eighth", x.type(text, ';'), FULL);
            due.is("a ninth", x.type(text, 'r'), FULL);
            due.is("the text is well", x.fault(text), NONE);
            due.is("there are eight", x.count(text), 8);
        }
    }

    private static HoleBank told(String holes, String works) {
        HoleBank x = Due.bank(holes, works);
        x.loan(0, 0, 1, 3);
        x.loan(5, 1, 2, 9);
        x.loan(39, 2, 3, 1);
        x.fill(1, 0);
        x.patch(4, 2);
        x.seen(6, 1, 0);
        return x;
    }

    private static void withAFaultAsIfEmpty() {
        due.says("With a FAULT a text is as if it was empty.");
        String holes = "r352;s441;l291", works = "r339;a457;l295";
        asIf(told("!" + holes, works), told("", works));
        asIf(told(holes + ";", works), told("", works));
        asIf(told("r352;s441;l29", works), told("", works));
        asIf(told(holes, "!" + works), told(holes, ""));
        asIf(told(holes, works + ";"), told(holes, ""));
        asIf(told(holes, "r339;a457;l29"), told(holes, ""));
        HoleBank x = told(holes, works);
        x.type(0, '!');
        x.type(1, '!');
        asIf(x, told("", ""));
        due.is("bytes are still there", x.count(2), 15);
        due.is("bytes are still there", x.count(3), 15);
        x.undo(0);
        x.undo(1);
        due.is("undone, all is back", x.digest(), told(holes, works).digest());
    }

    private static void asIf(HoleBank x, HoleBank y) {
        for (int what : new int[] {0, 1, 4, 5, 6, 7}) due.is("count(" + what + ")", x.count(what), y.count(what));
        for (int k = 0; k < 3; k++) {
            due.is("hole " + k, x.hole(k, 1), y.hole(k, 1));
            due.is("work " + k, x.work(k, 1), y.work(k, 1));
            due.is("mend " + k, x.mend(k, 3, NONE), y.mend(k, 3, NONE));
            due.is("moths " + k, x.moths(5, 9, k, 0), y.moths(5, 9, k, 0));
            for (int what = 0; what < 3; what++) {
                due.is("is " + k, x.is(5, k, what), y.is(5, k, what));
                due.is("came " + k, x.came(k, what), y.came(k, what));
            }
            due.is("serves " + k, x.serves(5, k), y.serves(5, k));
            due.is("breaches " + k, x.breaches(k), y.breaches(k));
        }
        for (int day : new int[] {0, 5, 39}) {
            for (int what = 0; what < 2; what++) {
                due.is("behind", x.behind(day, what), y.behind(day, what));
                due.is("best", x.best(day, what - 1), y.best(day, what - 1));
                due.is("call", x.call(day, what), y.call(day, what));
            }
            due.is("look", x.look(day), y.look(day));
        }
        for (int what = 0; what < 2; what++) {
            due.is("never", x.never(what), y.never(what));
            due.is("run", x.run(7, 20, what), y.run(7, 20, what));
        }
        due.is("first", x.first(), y.first());
        x.sheet(0, 2, 9);
        due.is("write", x.write(0, 0), y.count(0));
    }

    private static void newObject() {
        due.says("No HOLES, no WORKS; all SHEETS are LOST.");
        HoleBank other = told("r352", "r339");
        other.sheet(0, 0, 5);
        other.ease(7);
        HoleBank x = new HoleBank();
        for (int what = 0; what <= 8; what++) due.is("count(" + what + ")", x.count(what), 0);
        due.is("hole 0", x.hole(0, 0), BAD);
        due.is("work 0", x.work(0, 0), BAD);
        for (int text = 0; text < 2; text++) due.is("text " + text, x.undo(text), NOT);
        for (int what = 0; what < 3; what++) due.is("back(" + what + ")", x.back(what), NOT);
        for (int s = 0; s < 4; s++) due.is("sheet " + s, x.lose(s), NULL);
        due.is("forget", x.forget(), 0);
    }

    private static void type() {
        due.says("A byte (0 to 255) comes behind a text: how many. BAD; FULL.");
        HoleBank x = new HoleBank();
        for (int text : NO_TEXTS) due.is("text " + text, x.type(text, 'r'), BAD);
        for (int b : new int[] {-1, 256, MIN, MAX}) due.is("byte " + b, x.type(0, b), BAD);
        due.is("nothing came", x.count(2), 0);
        due.is("byte 0", x.type(0, 0), 1);
        due.is("byte 255", x.type(0, 255), 2);
        for (int n = 3; n <= 39; n++) x.type(0, 255);
        due.is("full", x.type(0, 0), FULL);
        due.is("full, and text 2", x.type(2, 0), BAD);
        due.is("full, and byte 256", x.type(0, 256), BAD);
        due.is("full, and byte -1", x.type(0, -1), BAD);
        due.is("the other is not full", x.type(1, 0), 1);
        x.undo(0);
        due.is("undone, and one more", x.type(0, 0), 39);
        due.is("full again", x.type(0, 0), FULL);
        due.is("it comes behind what was there", faultBehind(0, "r1", '1'), 3);
    }

    private static void wipe() {
        due.says("A text is empty: how many bytes it had. BAD.");
        HoleBank x = Due.bank(FULL_TEXTS[0], "a");
        for (int text : NO_TEXTS) due.is("text " + text, x.wipe(text), BAD);
        due.is("full", x.wipe(0), 39);
        due.is("empty", x.wipe(0), 0);
        due.is("no holes", x.count(0), 0);
        due.is("with a fault", x.wipe(1), 1);
        due.is("empty", x.wipe(1), 0);
        due.is("the first byte again", x.type(0, 'l'), 1);
    }

    private static void undo() {
        due.says("The last byte of a text is undone: how many are left. BAD; NOT: it is empty.");
        HoleBank x = new HoleBank();
        for (int text : NO_TEXTS) due.is("text " + text, x.undo(text), BAD);
        for (int text = 0; text < 2; text++) {
            due.is("empty", x.undo(text), NOT);
            Due.type(x, text, FULL_TEXTS[text]);
            for (int n = 38; n >= 0; n--) due.is("left", x.undo(text), n);
            due.is("empty", x.undo(text), NOT);
            due.is("none less than none", x.count(2 + text), 0);
            x.type(text, 'r');
            x.wipe(text);
            due.is("wiped", x.undo(text), NOT);
        }
    }

    private static void fault() {
        due.says("The FAULT of a text; NONE. BAD.");
        HoleBank x = Due.bank("r110", "a110");
        for (int text : NO_TEXTS) due.is("text " + text, x.fault(text), BAD);
        due.is("holes", x.fault(0), NONE);
        due.is("works: worth 0", x.fault(1), 3);
    }

    private static void hole() {
        due.says("Its shape (what = 0: 0 r, 1 s, 2 l), how WIDE (1), how DEEP (2), how it GROWS (3) of a HOLE as told. BAD.");
        HoleBank x = Due.bank("r110;s999;l123", "a111;a111;a111;a111");
        int[][] want = {{0, 1, 1, 0}, {1, 9, 9, 9}, {2, 1, 2, 3}};
        x.loan(0, 1, 0, 9);
        x.patch(0, 0);
        figuresAre(want, (k, what) -> x.hole(k, what));
    }

    private static void work() {
        due.says("Its shape (what = 0: 0 r, 1 s, 2 l, 3 a), how WIDE (1), how DEEP (2), its WORTH (3) of a WORK. BAD.");
        HoleBank x = Due.bank("r110;r110;r110;r110;r110;r110", "r101;s999;l123;a456");
        int[][] want = {{0, 1, 0, 1}, {1, 9, 9, 9}, {2, 1, 2, 3}, {3, 4, 5, 6}};
        figuresAre(want, (k, what) -> x.work(k, what));
    }

    private interface Figures {
        int of(int k, int what);
    }

    private static void figuresAre(int[][] want, Figures figures) {
        for (int k = 0; k < want.length; k++) {
            for (int what = 0; what < 4; what++) due.is(k + ", what " + what, figures.of(k, what), want[k][what]);
            for (int what : new int[] {-1, 4, MIN, MAX}) due.is(k + ", what " + what, figures.of(k, what), BAD);
        }
        for (int k : new int[] {-1, want.length, 8, MIN, MAX}) due.is(k + ", what 0", figures.of(k, 0), BAD);
    }
}
