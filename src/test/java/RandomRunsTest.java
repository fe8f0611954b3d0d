import java.util.Random;

/** Random runs of calls, the same in each go, on a HoleBank and a PlainBank side by side. */
public final class RandomRunsTest {
    /** A step makes less than 60 calls, so that no object is asked more often than 512 times. */
    private static final int RUNS = 1600, CALLS = 450;
    private static final int[] EXTREMES = {
        Integer.MIN_VALUE, Integer.MIN_VALUE + 1, -1000, -2, -1, 0, 1, 2, 3, 4, 5, 6, 7, 8, 9, 10, 11, 12, 13, 15, 16,
        17, 39, 40, 41, 59, 60, 61, 127, 128, 255, 256, 32767, 32768, 65536, Integer.MAX_VALUE - 1, Integer.MAX_VALUE
    };

    private final Random random;
    private final HoleBank bank = new HoleBank();
    private final PlainBank plain = new PlainBank();
    private final Due due;
    private final int run;
    /** Of a run: how many days are much used, so that things meet. */
    private final int days;
    private int asked = 0;

    private RandomRunsTest(int run, Due due) {
        this.run = run;
        this.due = due;
        random = new Random(run);
        days = new int[] {4, 10, 20, 40}[random.nextInt(4)];
    }

    public static void main(String[] args) {
        Due due = new Due();
        for (int run = 0; run < RUNS && due.wrongs() == 0; run++) {
            new RandomRunsTest(run, due).go();
        }
        due.end();
    }

    private void go() {
        typeItems(0, random.nextInt(9));
        typeItems(1, random.nextInt(9));
        while (asked < CALLS && due.wrongs() == 0) {
            step(random.nextInt(100));
        }
        check("digest()", bank.digest(), plain.digest());
    }

    private void check(String call, long got, long want) {
        asked++;
        due.is("run " + run + ": " + call, got, want);
    }

    private int upTo(int most) {
        return random.nextInt(most + 1);
    }

    /** Mostly a number as told; now and then one near the edge, or far beyond it. */
    private int about(int least, int most) {
        int kind = random.nextInt(60);
        if (kind == 0) return EXTREMES[random.nextInt(EXTREMES.length)];
        if (kind == 1) return least - 1;
        if (kind == 2) return most + 1;
        return least + random.nextInt(most - least + 1);
    }

    private int aDay() {
        return random.nextInt(8) == 0 ? about(0, 39) : about(0, days - 1);
    }

    private void typeItems(int text, int n) {
        for (int k = 0; k < n; k++) {
            if (k > 0) typeByte(text, ';');
            typeByte(text, (text == 0 ? "rsl" : "rslaa").charAt(random.nextInt(text == 0 ? 3 : 5)));
            typeByte(text, '1' + random.nextInt(random.nextBoolean() ? 9 : 4));
            typeByte(text, text == 0 ? '1' + random.nextInt(9) : '0' + random.nextInt(random.nextBoolean() ? 10 : 3));
            typeByte(text, text == 0 ? '0' + random.nextInt(random.nextBoolean() ? 10 : 3) : '1' + random.nextInt(9));
        }
    }

    private void typeByte(int text, int b) {
        check("type(" + text + ", " + b + ")", bank.type(text, b), plain.type(text, b));
    }

    private void step(int dice) {
        if (dice < 4) texts();
        else if (dice < 30) tell();
        else if (dice < 50) askDays();
        else if (dice < 65) askWorks();
        else if (dice < 80) askSeen();
        else if (dice < 97) askSheets();
        else askCounts();
    }

    private void texts() {
        int text = about(0, 1);
        int kind = random.nextInt(10);
        if (kind == 0) {
            check("wipe(" + text + ")", bank.wipe(text), plain.wipe(text));
            if (text == 0 || text == 1) typeItems(text, random.nextInt(9));
        } else if (kind < 4) {
            check("undo(" + text + ")", bank.undo(text), plain.undo(text));
        } else if (kind < 7) {
            int b = random.nextInt(4) == 0 ? about(0, 255) : "rsla;0123456789".charAt(random.nextInt(15));
            check("type(" + text + ", " + b + ")", bank.type(text, b), plain.type(text, b));
        } else if (plain.fault(0) != -1 || plain.fault(1) != -1) {
            // a text with a fault answers little: it is made anew
            int faulty = plain.fault(0) != -1 ? 0 : 1;
            check("fault(" + faulty + ")", bank.fault(faulty), plain.fault(faulty));
            check("wipe(" + faulty + ")", bank.wipe(faulty), plain.wipe(faulty));
            typeItems(faulty, random.nextInt(9));
        }
        check("fault(" + text + ")", bank.fault(text), plain.fault(text));
    }

    private void tell() {
        int day = aDay(), hole = about(0, 7);
        int kind = random.nextInt(12);
        if (kind < 5) {
            int person = about(0, 5), n = about(1, 9);
            check("loan(" + day + ", " + hole + ", " + person + ", " + n + ")",
                bank.loan(day, hole, person, n), plain.loan(day, hole, person, n));
        } else if (kind < 7) {
            check("fill(" + day + ", " + hole + ")", bank.fill(day, hole), plain.fill(day, hole));
        } else if (kind < 9) {
            check("patch(" + day + ", " + hole + ")", bank.patch(day, hole), plain.patch(day, hole));
        } else if (kind < 10) {
            int what = about(0, 2);
            check("back(" + what + ")", bank.back(what), plain.back(what));
        } else if (kind < 11) {
            int v = about(0, 8);
            check("ease(" + v + ")", bank.ease(v), plain.ease(v));
        } else {
            // what is seen is mostly nearly so, so that few loans are left
            int wide = about(0, 9);
            boolean there = day >= 0 && day < 40 && plain.is(day, hole, 0) > 0;
            if (there && random.nextInt(4) > 0) wide = plain.is(day, hole, 2) == -1 ? plain.is(day, hole, 0) : 0;
            check("seen(" + day + ", " + hole + ", " + wide + ")",
                bank.seen(day, hole, wide), plain.seen(day, hole, wide));
        }
    }

    private void askDays() {
        int day = aDay(), hole = about(0, 7), what = about(0, 2), loan = about(0, 11), person = about(0, 5);
        switch (random.nextInt(6)) {
            case 0 -> check("is(" + day + ", " + hole + ", " + what + ")",
                bank.is(day, hole, what), plain.is(day, hole, what));
            case 1 -> check("behind(" + day + ", " + what + ")", bank.behind(day, what), plain.behind(day, what));
            case 2 -> check("came(" + loan + ", " + what + ")", bank.came(loan, what), plain.came(loan, what));
            case 3 -> check("breaches(" + person + ")", bank.breaches(person), plain.breaches(person));
            case 4 -> check("first()", bank.first(), plain.first());
            default -> {
                int k = about(0, 3);
                check("hole(" + hole + ", " + k + ")", bank.hole(hole, k), plain.hole(hole, k));
                check("work(" + hole + ", " + k + ")", bank.work(hole, k), plain.work(hole, k));
            }
        }
    }

    private void askWorks() {
        int day = aDay(), which = about(0, 7), i = about(-1, 7), what = about(0, 1), row = about(-1, 2);
        switch (random.nextInt(4)) {
            case 0 -> check("serves(" + day + ", " + which + ")", bank.serves(day, which), plain.serves(day, which));
            case 1 -> check("best(" + day + ", " + i + ")", bank.best(day, i), plain.best(day, i));
            case 2 -> check("mend(" + which + ", " + day + ", " + row + ")",
                bank.mend(which, day, row), plain.mend(which, day, row));
            default -> check("call(" + day + ", " + what + ")", bank.call(day, what), plain.call(day, what));
        }
    }

    private void askSeen() {
        int day = aDay(), what = about(0, 1), work = about(0, 7), c = about(0, 16);
        int seed = random.nextBoolean() ? random.nextInt() : about(-3, 3), n = about(1, 40);
        switch (random.nextInt(12)) {
            case 0 -> check("forget()", bank.forget(), plain.forget());
            case 1, 2, 3 -> check("never(" + what + ")", bank.never(what), plain.never(what));
            case 4, 5, 6 -> check("look(" + day + ")", bank.look(day), plain.look(day));
            case 7, 8, 9 -> check("moths(" + c + ", " + day + ", " + work + ", " + what + ")",
                bank.moths(c, day, work, what), plain.moths(c, day, work, what));
            default -> check("run(" + seed + ", " + n + ", " + what + ")",
                bank.run(seed, n, what), plain.run(seed, n, what));
        }
    }

    private void askSheets() {
        int s = about(0, 3), t = about(0, 3), form = about(0, 2), i = about(0, upTo(3) == 0 ? 59 : 12);
        int n = about(0, 16), v = random.nextBoolean() ? about(0, 9) : random.nextInt();
        switch (random.nextInt(10)) {
            case 0, 1 -> {
                int size = upTo(3) == 0 ? about(0, 60) : n;
                check("sheet(" + s + ", " + form + ", " + size + ")",
                    bank.sheet(s, form, size), plain.sheet(s, form, size));
            }
            case 2 -> {
                if (upTo(2) == 0) check("lose(" + s + ")", bank.lose(s), plain.lose(s));
            }
            case 3, 4, 5 -> check("lay(" + s + ", " + form + ", " + i + ", " + v + ")",
                bank.lay(s, form, i, v), plain.lay(s, form, i, v));
            case 6 -> check("get(" + s + ", " + form + ", " + i + ")", bank.get(s, form, i), plain.get(s, form, i));
            case 7 -> {
                int j = about(0, 12);
                check("copy(" + s + ", " + i + ", " + t + ", " + j + ", " + n + ")",
                    bank.copy(s, i, t, j, n), plain.copy(s, i, t, j, n));
            }
            case 8 -> {
                int day = aDay();
                check("write(" + day + ", " + s + ")", bank.write(day, s), plain.write(day, s));
            }
            default -> readLoans(s, form);
        }
        sameItems(about(0, 3));
    }

    private void readLoans(int s, int form) {
        if (random.nextBoolean() && s >= 0 && s < 4 && form >= 0 && form < 3) {
            int n = upTo(14);
            check("sheet", bank.sheet(s, form, n), plain.sheet(s, form, n));
            int[] most = {39, 7, 5, 9};
            for (int i = 0; i < n; i++) {
                int v = about(i % 4 == 3 ? 1 : 0, most[i % 4]);
                check("lay", bank.lay(s, form, i, v), plain.lay(s, form, i, v));
            }
        }
        check("read(" + s + ")", bank.read(s), plain.read(s));
    }

    private void sameItems(int s) {
        for (int form = 0; form < 3; form++) {
            for (int i = 0; i < 3; i++) {
                check("get(" + s + ", " + form + ", " + i + ")", bank.get(s, form, i), plain.get(s, form, i));
            }
        }
    }

    private void askCounts() {
        for (int what = -1; what <= 9; what++) {
            check("count(" + what + ")", bank.count(what), plain.count(what));
        }
        if (upTo(4) == 0) check("digest()", bank.digest(), plain.digest());
    }
}
