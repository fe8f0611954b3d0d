import java.util.ArrayList;
import java.util.List;
import java.util.function.Supplier;

/**
 * What the document says of refusals: each call, each of its numbers in turn just beyond its edges and far beyond them, on
 * an empty, a half-filled and a full bank; the order of refusals; and that they change nothing.
 */
public final class RefusalEdgesTest {
    private static final int BAD = HoleBank.BAD, NOT = HoleBank.NOT, FULL = HoleBank.FULL, NONE = HoleBank.NONE;
    private static final int NULL = -11, INDEX = -12, CAST = -13, STORE = -14, SIZE = -15;
    private static final int MIN = Integer.MIN_VALUE, MAX = Integer.MAX_VALUE;
    private static final long ANY_BAD = -1002, LONG_BAD = Long.MIN_VALUE + 2;

    private static final Due due = new Due();

    private interface Act {
        long on(HoleBank x);
    }

    private interface Call {
        long of(HoleBank x, int[] given);
    }

    /** Numbers that a call takes; those of any number at all are never refused as bad. */
    private record Range(int least, int most, boolean isBadBelow, boolean isBadAbove) {
        List<Integer> bad() {
            List<Integer> all = new ArrayList<>();
            if (isBadBelow) all.addAll(List.of(MIN, least - 1));
            if (isBadAbove) all.addAll(List.of(most + 1, MAX));
            return all;
        }
    }

    /** A bank in some state, and the answers that it gives when nothing has been refused. */
    private static final class State {
        private final String name;
        private final Supplier<HoleBank> maker;
        private final long[] answers;
        private final int finding;

        private State(String name, Supplier<HoleBank> maker) {
            this.name = name;
            this.maker = maker;
            answers = answersOf(maker.get());
            finding = maker.get().count(8);
        }
    }

    public static void main(String[] args) {
        State[] states = {
            new State("empty", HoleBank::new), new State("half", RefusalEdgesTest::half),
            new State("full", RefusalEdgesTest::full)
        };
        for (State state : states) {
            badTexts(state);
            badTold(state);
            badDays(state);
            badWorks(state);
            badSeen(state);
            badSheets(state);
        }
        ofTheEmpty(states[0]);
        ofTheHalf(states[1]);
        ofTheFull(states[2]);
        anyNumbers(states[1]);
        due.end();
    }

    private static HoleBank half() {
        HoleBank x = Due.bank("r351;s441;l291", "r339;a457");
        x.loan(0, 0, 1, 3);
        x.loan(5, 1, 2, 9);
        x.fill(1, 0);
        x.patch(5, 2);
        x.seen(5, 1, 0);
        x.ease(4);
        for (int form = 0; form < 3; form++) {
            x.sheet(form, form, 2);
            x.lay(form, form, 0, 10 + form);
            x.lay(form, form, 1, 20 + form);
        }
        return x;
    }

    private static HoleBank full() {
        HoleBank x = Due.bank("r351;s441;l291;r920;s213;r119;l991;s111", "r339;a457;l295;s408;a111;a901;r555;l129");
        for (int l = 0; l < 12; l++) x.loan(3 * l, l % 8, l % 6, 9);
        for (int k = 0; k < 8; k++) {
            x.fill(3 * k, k);
            x.patch(k + 1, k);
            x.seen(k, k, 0);
        }
        for (int s = 0; s < 4; s++) {
            x.sheet(s, s % 3, 60);
            x.lay(s, s % 3, 59, 30 + s);
        }
        x.lay(0, 0, 60, 0);
        return x;
    }

    /** All that can be seen of a bank but its finding, as far as one object may be asked. */
    private static long[] answersOf(HoleBank x) {
        List<Long> all = new ArrayList<>();
        all.add(x.digest());
        for (int what = 0; what <= 7; what++) all.add((long) x.count(what));
        for (int s = 0; s < 4; s++) {
            for (int form = 0; form < 3; form++) {
                for (int i : new int[] {0, 1, 2, 59}) all.add((long) x.get(s, form, i));
            }
            all.add((long) x.lose(s));
        }
        all.add((long) x.ease(3));
        for (int what = 0; what < 3; what++) all.add((long) x.back(what));
        all.add(x.digest());
        for (int text = 0; text < 2; text++) {
            all.add((long) x.undo(text));
            all.add((long) x.fault(text));
        }
        all.add((long) x.forget());
        return all.stream().mapToLong(Long::longValue).toArray();
    }

    /** A call is refused, its finding (0: none) is told, and else nothing is another than it was. */
    private static void refused(State state, String call, long want, int finding, Act act) {
        HoleBank x = state.maker.get();
        String what = state.name + ": " + call;
        due.is(what, act.on(x), want);
        due.is(what + ", the finding then", x.count(8), finding == 0 ? state.finding : finding);
        long[] answers = answersOf(x);
        for (int k = 0; k < answers.length; k++) due.is(what + ", answer " + k + " then", answers[k], state.answers[k]);
    }

    private static Range from(int least, int most) {
        return new Range(least, most, true, true);
    }

    /** Any number is taken, or refused by another name than bad: so bad must go ahead of that. */
    private static Range any(int low, int high) {
        return new Range(low, high, false, false);
    }

    private static void bad(State state, String name, long want, Call call, Range... ranges) {
        for (int p = 0; p < ranges.length; p++) {
            for (int wrong : ranges[p].bad()) {
                for (boolean isLow : new boolean[] {true, false}) {
                    int[] given = new int[ranges.length];
                    for (int k = 0; k < given.length; k++) given[k] = isLow ? ranges[k].least : ranges[k].most;
                    given[p] = wrong;
                    refused(state, name + java.util.Arrays.toString(given), want, 0, x -> call.of(x, given));
                }
            }
        }
    }

    private static final String BAD_SAYS = "BAD -2 (a number not as told, no such thing)";

    private static final Range TEXT = from(0, 1), DAY = from(0, 39), SHEET = from(0, 3), FORM = from(0, 2);
    private static final Range HOLE = from(0, 7), PERSON = from(0, 5);

    /** Of things that there are; where there are none, 0 is bad too. */
    private static Range there(State state, int counted) {
        return from(0, state.maker.get().count(counted) - 1);
    }

    private static void badTexts(State state) {
        due.says(BAD_SAYS);
        bad(state, "type", BAD, (x, g) -> x.type(g[0], g[1]), TEXT, from(0, 255));
        bad(state, "wipe", BAD, (x, g) -> x.wipe(g[0]), TEXT);
        bad(state, "undo", BAD, (x, g) -> x.undo(g[0]), TEXT);
        bad(state, "fault", BAD, (x, g) -> x.fault(g[0]), TEXT);
        bad(state, "hole", BAD, (x, g) -> x.hole(g[0], g[1]), there(state, 0), from(0, 3));
        bad(state, "work", BAD, (x, g) -> x.work(g[0], g[1]), there(state, 1), from(0, 3));
    }

    private static void badTold(State state) {
        due.says(BAD_SAYS);
        bad(state, "loan", BAD, (x, g) -> x.loan(g[0], g[1], g[2], g[3]), DAY, HOLE, PERSON, from(1, 9));
        bad(state, "fill", BAD, (x, g) -> x.fill(g[0], g[1]), DAY, HOLE);
        bad(state, "patch", BAD, (x, g) -> x.patch(g[0], g[1]), DAY, HOLE);
        bad(state, "back", BAD, (x, g) -> x.back(g[0]), from(0, 2));
        bad(state, "read", BAD, (x, g) -> x.read(g[0]), SHEET);
        bad(state, "ease", BAD, (x, g) -> x.ease(g[0]), from(0, 8));
    }

    private static void badDays(State state) {
        due.says(BAD_SAYS);
        bad(state, "is", BAD, (x, g) -> x.is(g[0], g[1], g[2]), DAY, there(state, 0), from(0, 2));
        bad(state, "behind", BAD, (x, g) -> x.behind(g[0], g[1]), DAY, from(0, 1));
        bad(state, "came", ANY_BAD, (x, g) -> x.came(g[0], g[1]), there(state, 4), from(0, 2));
        bad(state, "breaches", BAD, (x, g) -> x.breaches(g[0]), PERSON);
    }

    private static void badWorks(State state) {
        due.says(BAD_SAYS);
        bad(state, "serves", BAD, (x, g) -> x.serves(g[0], g[1]), DAY, there(state, 0));
        bad(state, "best", BAD, (x, g) -> x.best(g[0], g[1]), DAY, from(NONE, 7));
        bad(state, "mend", BAD, (x, g) -> x.mend(g[0], g[1], g[2]), there(state, 1), DAY, from(NONE, 2));
        bad(state, "call", ANY_BAD, (x, g) -> x.call(g[0], g[1]), DAY, from(0, 1));
    }

    private static void badSeen(State state) {
        due.says(BAD_SAYS);
        bad(state, "seen", BAD, (x, g) -> x.seen(g[0], g[1], g[2]), DAY, HOLE, from(0, 9));
        bad(state, "never", BAD, (x, g) -> x.never(g[0]), from(0, 1));
        bad(state, "look", BAD, (x, g) -> x.look(g[0]), DAY);
        bad(state, "moths", LONG_BAD, (x, g) -> x.moths(g[0], g[1], g[2], g[3]),
            from(0, 16), DAY, there(state, 1), from(0, 1));
        bad(state, "run", BAD, (x, g) -> x.run(g[0], g[1], g[2]), any(MIN, MAX), from(1, 40), from(0, 1));
    }

    private static void badSheets(State state) {
        due.says(BAD_SAYS);
        bad(state, "sheet", BAD, (x, g) -> x.sheet(g[0], g[1], g[2]), SHEET, FORM, new Range(-1, 60, false, true));
        bad(state, "lose", BAD, (x, g) -> x.lose(g[0]), SHEET);
        bad(state, "lay", BAD, (x, g) -> x.lay(g[0], g[1], g[2], g[3]), SHEET, FORM, any(-1, 60), any(MIN, MAX));
        bad(state, "get", MIN, (x, g) -> x.get(g[0], g[1], g[2]), SHEET, FORM, any(-1, 60));
        bad(state, "copy", BAD, (x, g) -> x.copy(g[0], g[1], g[2], g[3], g[4]),
            SHEET, any(-1, 61), SHEET, any(-1, 61), any(-1, 61));
        bad(state, "write", BAD, (x, g) -> x.write(g[0], g[1]), DAY, SHEET);
        bad(state, "count", BAD, (x, g) -> x.count(g[0]), from(0, 8));
    }

    private static final String ORDER = "Refusals, the first that fits, in the order told at each act";
    private static final String NOTHING = "They change nothing (FINDINGS but count() 8).";

    private static void ofTheEmpty(State state) {
        due.says(NOTHING);
        for (int text = 0; text < 2; text++) {
            int t = text;
            refused(state, "undo", NOT, 0, x -> x.undo(t));
        }
        for (int what = 0; what < 3; what++) {
            int w = what;
            refused(state, "back", NOT, 0, x -> x.back(w));
        }
        due.says(ORDER);
        refused(state, "read lost", NULL, 1, x -> x.read(0));
        refused(state, "lose lost", NULL, 1, x -> x.lose(3));
        refused(state, "write to lost", NULL, 1, x -> x.write(39, 3));
        refused(state, "lay: null ahead of index", NULL, 1, x -> x.lay(0, 0, -1, 0));
        refused(state, "get: null ahead of index", MIN, 1, x -> x.get(0, 2, 60));
        refused(state, "copy: null ahead of index", NULL, 1, x -> x.copy(0, -1, 1, -1, -1));
        refused(state, "sheet below 0", SIZE, 5, x -> x.sheet(0, 0, -1));
    }

    private static void ofTheHalf(State state) {
        due.says(ORDER);
        refused(state, "lay: cast ahead of index", CAST, 3, x -> x.lay(0, 1, -1, 0));
        refused(state, "lay: cast ahead of index", CAST, 3, x -> x.lay(1, 0, 2, 0));
        refused(state, "get: cast ahead of index", MIN, 3, x -> x.get(2, 0, 2));
        refused(state, "lay: index", INDEX, 2, x -> x.lay(0, 0, 2, 0));
        refused(state, "get: index", MIN, 2, x -> x.get(2, 2, -1));
        refused(state, "copy: null (t) ahead of index", NULL, 1, x -> x.copy(0, -1, 3, 0, 9));
        refused(state, "copy: null (s) ahead of index", NULL, 1, x -> x.copy(3, -1, 0, 0, 9));
        refused(state, "copy: store ahead of index", STORE, 4, x -> x.copy(0, -1, 1, 0, 9));
        refused(state, "copy: index", INDEX, 2, x -> x.copy(0, 0, 0, 1, 2));
        refused(state, "copy: index of s", INDEX, 2, x -> x.copy(1, 1, 1, 0, 2));
        refused(state, "sheet below 0 where there is one", SIZE, 5, x -> x.sheet(2, 0, -1));
        refused(state, "write to lost", NULL, 1, x -> x.write(0, 3));
        refused(state, "read lost", NULL, 1, x -> x.read(3));
    }

    private static void ofTheFull(State state) {
        due.says(NOTHING);
        refused(state, "type", FULL, 0, x -> x.type(0, 'r'));
        refused(state, "type", FULL, 0, x -> x.type(1, 0));
        refused(state, "loan", FULL, 0, x -> x.loan(0, 0, 0, 1));
        refused(state, "loan", FULL, 0, x -> x.loan(39, 7, 5, 9));
        refused(state, "fill", FULL, 0, x -> x.fill(0, 0));
        refused(state, "patch", FULL, 0, x -> x.patch(0, 0));
        refused(state, "seen", FULL, 0, x -> x.seen(0, 0, 0));
        refused(state, "read, of which none may be", 0, 0, x -> x.read(2));
        refused(state, "lay beyond the last", INDEX, 2, x -> x.lay(0, 0, 60, 1));
        refused(state, "lay as another", CAST, 3, x -> x.lay(1, 0, 59, 1));
        refused(state, "copy of unlike", STORE, 4, x -> x.copy(0, 0, 1, 0, 60));
        refused(state, "copy of 61", INDEX, 2, x -> x.copy(0, 0, 3, 0, 61));
        refused(state, "sheet below 0", SIZE, 5, x -> x.sheet(3, 2, MIN));
    }

    private static void anyNumbers(State state) {
        due.says("Where any number is told, a refusal is -1000 less x; where the answer is a long, the least long and x more.");
        refused(state, "came", -1000 + BAD, 0, x -> x.came(2, 2));
        refused(state, "came", -1000 + BAD, 0, x -> x.came(0, 3));
        refused(state, "call", -1000 + BAD, 0, x -> x.call(40, 1));
        refused(state, "call", -1000 + BAD, 0, x -> x.call(0, 2));
        refused(state, "moths", Long.MIN_VALUE - BAD, 0, x -> x.moths(17, 0, 0, 0));
        refused(state, "moths", Long.MIN_VALUE - BAD, 0, x -> x.moths(0, 0, 2, 1));
    }
}
