import java.math.BigInteger;
import java.util.ArrayList;
import java.util.List;

/**
 * The document once more, written as slowly and plainly as can be, to hold HoleBank against: every question plays all
 * days anew, and every "best" and "fewest" tries all there is.
 */
final class PlainBank {
    static final class Item {
        char shape;
        int wide, deep, last;
    }

    static final class State {
        char shape;
        int wide, deep, grows, loan = -1, out = 0, lentArea;
        boolean filled;
    }

    /** What there is behind a day. */
    static final class Play {
        List<State> holes = new ArrayList<>();
        boolean[] counts;
        int[] breach;
        int[] more;
    }

    final StringBuilder[] texts = {new StringBuilder(), new StringBuilder()};
    final List<int[]> loans = new ArrayList<>();
    final List<int[]> fills = new ArrayList<>();
    final List<int[]> patches = new ArrayList<>();
    final List<int[]> sights = new ArrayList<>();
    final Object[] sheets = new Object[4];
    int ease = 2;
    int finding = 0;

    static boolean in(int x, int least, int most) {
        return least <= x && x <= most;
    }

    private int found(int n) {
        finding = n;
        return -10 - n;
    }

    // texts

    int type(int text, int b) {
        if (!in(text, 0, 1) || !in(b, 0, 255)) return -2;
        if (texts[text].length() == 39) return -4;
        texts[text].append((char) b);
        return texts[text].length();
    }

    int wipe(int text) {
        if (!in(text, 0, 1)) return -2;
        int n = texts[text].length();
        texts[text].setLength(0);
        return n;
    }

    int undo(int text) {
        if (!in(text, 0, 1)) return -2;
        if (texts[text].length() == 0) return -3;
        texts[text].setLength(texts[text].length() - 1);
        return texts[text].length();
    }

    private static final String HOLE = "[rsl][1-9][1-9][0-9]";
    private static final String WORK = "[rsla][1-9][0-9][1-9]";

    private static boolean whole(int text, String s) {
        String one = text == 0 ? HOLE : WORK;
        return s.isEmpty() || s.matches(one + "(;" + one + "){0,7}");
    }

    /** Whether some bytes more could make it whole: tried with each filler. */
    private static boolean canGoOn(int text, String s) {
        String fill = "r111;r111;r111;r111;r111;r111;r111;r111";
        if (s.length() > fill.length()) return false;
        return whole(text, s + fill.substring(s.length())) || whole(text, s);
    }

    int fault(int text) {
        if (!in(text, 0, 1)) return -2;
        String s = texts[text].toString();
        if (whole(text, s)) return -1;
        for (int n = 1; n <= s.length(); n++) {
            if (!canGoOn(text, s.substring(0, n))) return n - 1;
        }
        return s.length();
    }

    List<Item> items(int text) {
        List<Item> list = new ArrayList<>();
        if (fault(text) != -1 || texts[text].length() == 0) return list;
        for (String part : texts[text].toString().split(";")) {
            Item item = new Item();
            item.shape = part.charAt(0);
            item.wide = part.charAt(1) - '0';
            item.deep = part.charAt(2) - '0';
            item.last = part.charAt(3) - '0';
            list.add(item);
        }
        return list;
    }

    private int told(int text, int k, int what) {
        List<Item> list = items(text);
        if (!in(k, 0, list.size() - 1) || !in(what, 0, 3)) return -2;
        Item item = list.get(k);
        return what == 0 ? "rsla".indexOf(item.shape) : what == 1 ? item.wide : what == 2 ? item.deep : item.last;
    }

    int hole(int hole, int what) {
        return told(0, hole, what);
    }

    int work(int work, int what) {
        return told(1, work, what);
    }

    // what is told

    int loan(int day, int hole, int person, int days) {
        if (!in(day, 0, 39) || !in(hole, 0, 7) || !in(person, 0, 5) || !in(days, 1, 9)) return -2;
        if (loans.size() == 12) return -4;
        loans.add(new int[] {day, hole, person, days});
        return loans.size();
    }

    private static int tell(List<int[]> list, int day, int hole) {
        if (!in(day, 0, 39) || !in(hole, 0, 7)) return -2;
        if (list.size() == 8) return -4;
        list.add(new int[] {day, hole});
        return list.size();
    }

    int fill(int day, int hole) {
        return tell(fills, day, hole);
    }

    int patch(int day, int hole) {
        return tell(patches, day, hole);
    }

    int back(int what) {
        if (!in(what, 0, 2)) return -2;
        List<int[]> list = what == 0 ? loans : what == 1 ? fills : patches;
        if (list.isEmpty()) return -3;
        list.remove(list.size() - 1);
        return list.size();
    }

    int ease(int v) {
        if (!in(v, 0, 8)) return -2;
        int was = ease;
        ease = v;
        return was;
    }

    // the days

    private static void grow(State h) {
        if (h.shape == 'r') h.wide = Math.min(9, h.wide + 1);
        if (h.shape == 's') {
            h.wide = Math.min(9, h.wide + 1);
            h.deep = Math.max(1, h.deep - 1);
        }
        if (h.shape == 'l') h.deep = Math.min(9, h.deep + 1);
    }

    Play play(List<int[]> loans, List<int[]> patches, int lastDay) {
        Play p = new Play();
        for (Item item : items(0)) {
            State h = new State();
            h.shape = item.shape;
            h.wide = item.wide;
            h.deep = item.deep;
            h.grows = item.last;
            p.holes.add(h);
        }
        p.counts = new boolean[loans.size()];
        p.breach = new int[loans.size()];
        p.more = new int[loans.size()];
        java.util.Arrays.fill(p.breach, -1);
        for (int day = 0; day <= lastDay; day++) {
            for (int l = 0; l < loans.size(); l++) {
                int[] row = loans.get(l);
                if (row[0] != day || row[1] >= p.holes.size()) continue;
                State h = p.holes.get(row[1]);
                if (h.loan != -1) continue;
                p.counts[l] = true;
                h.loan = l;
                h.out = 0;
                h.lentArea = h.wide * h.deep;
            }
            for (int[] row : fills) {
                if (row[0] == day && row[1] < p.holes.size()) p.holes.get(row[1]).filled = true;
            }
            for (State h : p.holes) {
                if (h.loan == -1) h.filled = false;
            }
            for (int[] row : patches) {
                if (row[0] != day || row[1] >= p.holes.size()) continue;
                State h = p.holes.get(row[1]);
                if (h.loan == -1 && h.wide > 1) h.wide--;
            }
            for (State h : p.holes) {
                if (h.loan == -1) continue;
                h.out++;
                for (int k = 1; k <= 9 && h.grows > 0; k++) {
                    if (h.out == k * h.grows) grow(h);
                }
            }
            for (State h : p.holes) {
                if (h.loan == -1 || h.out != loans.get(h.loan)[3]) continue;
                p.more[h.loan] = h.wide * h.deep - h.lentArea;
                if (h.filled) p.breach[h.loan] = day;
                h.filled = false;
                h.loan = -1;
            }
        }
        return p;
    }

    Play play(int day) {
        return play(loans, patches, day);
    }

    int is(int day, int hole, int what) {
        if (!in(day, 0, 39) || !in(hole, 0, items(0).size() - 1) || !in(what, 0, 2)) return -2;
        State h = play(day).holes.get(hole);
        if (what == 2) return h.loan == -1 ? -1 : loans.get(h.loan)[2];
        return what == 0 ? h.wide : h.deep;
    }

    private static int vault(Play p) {
        int sum = 0;
        for (State h : p.holes) {
            if (h.loan == -1) sum += h.wide * h.deep;
        }
        return sum;
    }

    int behind(int day, int what) {
        if (!in(day, 0, 39) || !in(what, 0, 1)) return -2;
        Play p = play(day);
        if (what == 0) return vault(p);
        int bits = 0;
        for (int h = 0; h < p.holes.size(); h++) {
            if (p.holes.get(h).filled) bits += 1 << h;
        }
        return bits;
    }

    int came(int loan, int what) {
        if (!in(loan, 0, loans.size() - 1) || !in(what, 0, 2)) return -1002;
        Play p = play(39);
        return what == 0 ? (p.counts[loan] ? 1 : 0) : what == 1 ? (p.breach[loan] >= 0 ? 1 : 0) : p.more[loan];
    }

    int breaches(int person) {
        if (!in(person, 0, 5)) return -2;
        Play p = play(39);
        int n = 0;
        for (int l = 0; l < loans.size(); l++) {
            if (loans.get(l)[2] == person && p.breach[l] >= 0) n++;
        }
        return n;
    }

    int first() {
        Play p = play(39);
        for (int day = 0; day < 40; day++) {
            for (int l = 0; l < loans.size(); l++) {
                if (p.breach[l] == day) return l;
            }
        }
        return -1;
    }

    // works

    private boolean suits(Item work, char shape, int wide, int deep) {
        return (work.shape == 'a' || work.shape == shape) && in(wide, work.wide, work.wide + ease) && deep >= work.deep;
    }

    int serves(int day, int hole) {
        if (!in(day, 0, 39) || !in(hole, 0, items(0).size() - 1)) return -2;
        State h = play(day).holes.get(hole);
        int bits = 0;
        List<Item> works = items(1);
        for (int w = 0; w < works.size(); w++) {
            if (suits(works.get(w), h.shape, h.wide, h.deep)) bits += 1 << w;
        }
        return bits;
    }

    private int bestWorth;
    private int[] bestRow;

    /** Tries all rows in their order, none behind all holes: the first of the most worth is the least. */
    private void tryRows(Play p, List<Item> works, int[] row, int w, int worth) {
        if (w == works.size()) {
            if (worth > bestWorth) {
                bestWorth = worth;
                bestRow = row.clone();
            }
            return;
        }
        Item work = works.get(w);
        for (int h = 0; h < p.holes.size(); h++) {
            State s = p.holes.get(h);
            boolean used = false;
            for (int k = 0; k < w; k++) used |= row[k] == h;
            if (used || s.loan != -1 || !suits(work, s.shape, s.wide, s.deep)) continue;
            row[w] = h;
            tryRows(p, works, row, w + 1, worth + work.last);
        }
        row[w] = -1;
        tryRows(p, works, row, w + 1, worth);
    }

    private int bestOf(Play p) {
        List<Item> works = items(1);
        bestWorth = -1;
        tryRows(p, works, new int[works.size()], 0, 0);
        return bestWorth;
    }

    int best(int day, int i) {
        if (!in(day, 0, 39) || !in(i, -1, 7)) return -2;
        int worth = bestOf(play(day));
        return i == -1 ? worth : i < bestRow.length ? bestRow[i] : -1;
    }

    private int[] mendRow;

    private boolean tryPatches(Item work, int day, int[] row, int at) {
        if (at == row.length) {
            List<int[]> more = new ArrayList<>(patches);
            for (int h : row) more.add(new int[] {day, h});
            for (State h : play(loans, more, day).holes) {
                if (h.loan == -1 && suits(work, h.shape, h.wide, h.deep)) {
                    mendRow = row.clone();
                    return true;
                }
            }
            return false;
        }
        for (int h = at == 0 ? 0 : row[at - 1]; h < items(0).size(); h++) {
            row[at] = h;
            if (tryPatches(work, day, row, at + 1)) return true;
        }
        return false;
    }

    int mend(int work, int day, int i) {
        List<Item> works = items(1);
        if (!in(work, 0, works.size() - 1) || !in(day, 0, 39) || !in(i, -1, 2)) return -2;
        for (int n = 0; n <= 3; n++) {
            if (tryPatches(works.get(work), day, new int[n], 0)) {
                return i == -1 ? n : i < n ? mendRow[i] : -1;
            }
        }
        return -1;
    }

    private static List<int[]> without(List<int[]> list, int k) {
        List<int[]> rest = new ArrayList<>(list);
        rest.remove(k);
        return rest;
    }

    int call(int day, int what) {
        if (!in(day, 0, 39) || !in(what, 0, 1)) return -1002;
        Play p = play(day);
        int now = bestOf(p);
        int which = -1, most = -1;
        for (int l = 0; l < loans.size(); l++) {
            boolean out = false;
            for (State h : p.holes) out |= h.loan == l;
            if (!out) continue;
            int worth = bestOf(play(without(loans, l), patches, day));
            if (worth > most) {
                most = worth;
                which = l;
            }
        }
        return which == -1 ? -1 : what == 0 ? which : most - now;
    }

    // seen

    int seen(int day, int hole, int wide) {
        if (!in(day, 0, 39) || !in(hole, 0, 7) || !in(wide, 0, 9)) return -2;
        if (sights.size() == 8) return -4;
        sights.add(new int[] {day, hole, wide});
        return sights.size();
    }

    int forget() {
        int n = sights.size();
        sights.clear();
        return n;
    }

    private static int sight(State h) {
        return h.loan == -1 ? h.wide : 0;
    }

    private boolean asSeen(List<int[]> loans, List<int[]> patches) {
        for (int[] row : sights) {
            Play p = play(loans, patches, row[0]);
            if (row[1] >= p.holes.size() || sight(p.holes.get(row[1])) != row[2]) return false;
        }
        return true;
    }

    int never(int what) {
        if (!in(what, 0, 1)) return -2;
        int bits = 0;
        for (int k = 0; k < (what == 0 ? loans : patches).size(); k++) {
            boolean so = what == 0 ? asSeen(without(loans, k), patches) : asSeen(loans, without(patches, k));
            if (so) bits += 1 << k;
        }
        return bits;
    }

    int look(int day) {
        if (!in(day, 0, 39)) return -2;
        int[][] tally = new int[8][10];
        int candidates = never(0);
        for (int l = 0; l < loans.size(); l++) {
            if ((candidates >> l & 1) == 0) continue;
            Play p = play(without(loans, l), patches, day);
            for (int h = 0; h < p.holes.size(); h++) tally[h][sight(p.holes.get(h))]++;
        }
        int which = -1, least = 99;
        for (int h = 0; h < items(0).size(); h++) {
            int greatest = 0;
            for (int n : tally[h]) greatest = Math.max(greatest, n);
            if (greatest < least) {
                least = greatest;
                which = h;
            }
        }
        return which;
    }

    /** Goes through every set of holes that moths can come to. */
    long moths(int c, int day, int work, int what) {
        List<Item> works = items(1);
        if (!in(c, 0, 16) || !in(day, 0, 39) || !in(work, 0, works.size() - 1) || !in(what, 0, 1)) {
            return Long.MIN_VALUE + 2;
        }
        List<State> there = new ArrayList<>();
        for (State h : play(day).holes) {
            if (h.loan == -1) there.add(h);
        }
        BigInteger above = BigInteger.ZERO;
        for (int set = 0; set < 1 << there.size(); set++) {
            BigInteger weight = BigInteger.ONE;
            boolean served = false;
            for (int k = 0; k < there.size(); k++) {
                State h = there.get(k);
                boolean eaten = (set >> k & 1) == 1;
                weight = weight.multiply(BigInteger.valueOf(eaten ? c : 16 - c));
                served |= suits(works.get(work), h.shape, eaten ? Math.min(9, h.wide + 1) : h.wide, h.deep);
            }
            if (served) above = above.add(weight);
        }
        BigInteger below = BigInteger.valueOf(16).pow(there.size());
        BigInteger common = above.gcd(below);
        return (what == 0 ? above : below).divide(common).longValueExact();
    }

    int run(int seed, int n, int what) {
        if (!in(n, 1, 40) || !in(what, 0, 1)) return -2;
        int m = items(0).size();
        List<int[]> all = new ArrayList<>(loans);
        int s = seed;
        for (int day = 0; day < n && m > 0; day++) {
            s = s * 1103515245 + 12345;
            int hole = ((s >> 16) & 0xffff) % m;
            s = s * 1103515245 + 12345;
            int days = ((s >> 16) & 0xffff) % 9 + 1;
            all.add(new int[] {day, hole, 0, days});
        }
        Play p = play(all, patches, n - 1);
        if (what == 0) return vault(p);
        int counted = 0;
        for (int l = loans.size(); l < all.size(); l++) counted += p.counts[l] ? 1 : 0;
        return counted;
    }

    // sheets, as the Java arrays of which the document speaks

    private static int size(Object sheet) {
        return java.lang.reflect.Array.getLength(sheet);
    }

    private static int form(Object sheet) {
        return sheet instanceof byte[] ? 0 : sheet instanceof short[] ? 1 : 2;
    }

    private static int item(Object sheet, int i) {
        return java.lang.reflect.Array.getInt(sheet, i);
    }

    private static void put(Object sheet, int i, int v) {
        if (sheet instanceof byte[] b) b[i] = (byte) v;
        if (sheet instanceof short[] h) h[i] = (short) v;
        if (sheet instanceof int[] w) w[i] = v;
    }

    int sheet(int s, int form, int n) {
        if (!in(s, 0, 3) || !in(form, 0, 2) || n > 60) return -2;
        if (n < 0) return found(5);
        sheets[s] = form == 0 ? new byte[n] : form == 1 ? new short[n] : new int[n];
        return n;
    }

    int lose(int s) {
        if (!in(s, 0, 3)) return -2;
        if (sheets[s] == null) return found(1);
        int n = size(sheets[s]);
        sheets[s] = null;
        return n;
    }

    private int refusal(int s, int form, int i) {
        if (sheets[s] == null) return 1;
        if (form(sheets[s]) != form) return 3;
        return in(i, 0, size(sheets[s]) - 1) ? 0 : 2;
    }

    int lay(int s, int form, int i, int v) {
        if (!in(s, 0, 3) || !in(form, 0, 2)) return -2;
        int refused = refusal(s, form, i);
        if (refused != 0) return found(refused);
        put(sheets[s], i, v);
        return 1;
    }

    int get(int s, int form, int i) {
        if (!in(s, 0, 3) || !in(form, 0, 2)) return Integer.MIN_VALUE;
        int refused = refusal(s, form, i);
        if (refused != 0) {
            found(refused);
            return Integer.MIN_VALUE;
        }
        return item(sheets[s], i);
    }

    int copy(int s, int i, int t, int j, int n) {
        if (!in(s, 0, 3) || !in(t, 0, 3)) return -2;
        if (sheets[s] == null || sheets[t] == null) return found(1);
        if (form(sheets[s]) != form(sheets[t])) return found(4);
        if (i < 0 || j < 0 || n < 0 || (long) i + n > size(sheets[s]) || (long) j + n > size(sheets[t])) return found(2);
        int[] was = new int[n];
        for (int k = 0; k < n; k++) was[k] = item(sheets[s], i + k);
        for (int k = 0; k < n; k++) put(sheets[t], j + k, was[k]);
        return 1;
    }

    int read(int s) {
        if (!in(s, 0, 3)) return -2;
        if (sheets[s] == null) return found(1);
        int n = 0;
        for (int k = 0; k < size(sheets[s]) / 4; k++) {
            int[] row = new int[4];
            for (int c = 0; c < 4; c++) row[c] = item(sheets[s], 4 * k + c);
            if (loan(row[0], row[1], row[2], row[3]) < 0) break;
            n++;
        }
        return n;
    }

    int write(int day, int s) {
        if (!in(day, 0, 39) || !in(s, 0, 3)) return -2;
        if (sheets[s] == null) return found(1);
        Play p = play(day);
        int n = 0;
        while (n < size(sheets[s]) && n < p.holes.size()) {
            put(sheets[s], n, sight(p.holes.get(n)));
            n++;
        }
        return n;
    }

    int count(int what) {
        if (!in(what, 0, 8)) return -2;
        int counted = 0;
        for (boolean b : play(39).counts) counted += b ? 1 : 0;
        int[] all = {
            items(0).size(), items(1).size(), texts[0].length(), texts[1].length(), loans.size(), counted,
            fills.size() + patches.size(), sights.size(), finding
        };
        return all[what];
    }

    long digest() {
        List<Long> all = new ArrayList<>();
        for (int k = 0; k <= 7; k++) all.add((long) count(k));
        for (int t = 0; t < 2; t++) all.add((long) fault(t));
        for (int h = 0; h < items(0).size(); h++) {
            for (int k = 0; k <= 3; k++) all.add((long) hole(h, k));
            for (int k = 0; k <= 2; k++) all.add((long) is(5, h, k));
            for (int k = 0; k <= 2; k++) all.add((long) is(39, h, k));
            all.add((long) serves(5, h));
        }
        for (int w = 0; w < items(1).size(); w++) {
            for (int k = 0; k <= 3; k++) all.add((long) work(w, k));
            for (int k = -1; k <= 0; k++) all.add((long) mend(w, 3, k));
            for (int k = 0; k <= 1; k++) all.add(moths(5, 9, w, k));
        }
        for (int l = 0; l < loans.size(); l++) {
            for (int k = 0; k <= 2; k++) all.add((long) came(l, k));
        }
        for (int day : new int[] {0, 5, 39}) {
            for (int k = 0; k <= 1; k++) all.add((long) behind(day, k));
            for (int k = -1; k <= 0; k++) all.add((long) best(day, k));
            for (int k = 0; k <= 1; k++) all.add((long) call(day, k));
            all.add((long) look(day));
        }
        for (int p = 0; p <= 5; p++) all.add((long) breaches(p));
        all.add((long) first());
        for (int k = 0; k <= 1; k++) all.add((long) never(k));
        for (int k = 0; k <= 1; k++) all.add((long) run(7, 20, k));
        long h = 17;
        for (long v : all) h = 31 * h + v;
        return h;
    }
}
