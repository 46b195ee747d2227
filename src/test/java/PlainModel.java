import java.nio.charset.StandardCharsets;
import java.util.ArrayList;
import java.util.Arrays;
import java.util.HashMap;
import java.util.List;
import java.util.Map;
import java.util.TreeSet;

/**
 * The document once more, as plainly as can be and without a thought of speed: puffs are moved
 * quarter by quarter, plans and days are gone through one by one. ModelTest holds SmokesApart to it.
 */
final class PlainModel {
    static final int NONE = -1;

    static final class Chimney {
        int x, height, from = 0, to = 23, lit = NONE;
        List<Integer> smoke = new ArrayList<>();

        Chimney again() {
            Chimney other = new Chimney();
            other.x = x;
            other.height = height;
            other.from = from;
            other.to = to;
            other.lit = lit;
            other.smoke = new ArrayList<>(smoke);
            return other;
        }
    }

    static final class Place {
        List<Chimney> chimneys = new ArrayList<>();
        List<int[]> winds = new ArrayList<>();
        int layer = 6, thick = 2, fine = 5, lines = 0;

        Place again() {
            Place other = new Place();
            for (Chimney c : chimneys) other.chimneys.add(c.again());
            other.winds = new ArrayList<>(winds);
            other.layer = layer;
            other.thick = thick;
            other.fine = fine;
            other.lines = lines;
            return other;
        }
    }

    static final class Fault extends RuntimeException {
        private static final long serialVersionUID = 1L;
        final int kind, place;

        Fault(int kind, int place) {
            this.kind = kind;
            this.place = place;
        }
    }

    /** Winds by quarter: [0] low, [1] high. */
    interface Sky {
        int[] at(int quarter);
    }

    Place town = new Place();
    byte[] tape = new byte[0];
    int fault = 0, faultPlace = NONE;
    long[][] rows = new long[4][];
    int[] sorts = new int[4];
    Place[] images = new Place[2];

    // ---- the text

    int feed(int a, int b, int c, int d, int e) {
        if (tape.length + 20 > 900) return -5;
        byte[] more = Arrays.copyOf(tape, tape.length + 20);
        java.nio.ByteBuffer.wrap(more, tape.length, 20).putInt(a).putInt(b).putInt(c).putInt(d).putInt(e);
        tape = more;
        return tape.length;
    }

    int town(int n) {
        if (n < 0 || n > tape.length) return -3;
        String text = new String(tape, 0, n, StandardCharsets.ISO_8859_1);
        tape = new byte[0];
        fault = 0;
        faultPlace = NONE;
        try {
            town = read(text);
            return town.lines;
        } catch (Fault f) {
            fault = f.kind;
            faultPlace = f.place;
            return -30 - f.kind;
        }
    }

    /** A token is its text and its place; what begins no token is a token with an empty text. */
    record Token(String text, int place) {
        boolean isNumber() {
            return text.matches("[0-9]{1,3}");
        }
    }

    static List<Token> tokens(String text) {
        List<Token> all = new ArrayList<>();
        java.util.regex.Matcher m =
            java.util.regex.Pattern.compile("[a-z]+|[0-9]+|;|[\n ]+|[\\x00-\\xff]").matcher(text);
        while (m.find()) {
            String t = m.group();
            if (t.charAt(0) == ' ' || t.charAt(0) == '\n') continue;
            boolean good = t.equals(";") || t.matches("[a-z]+") || t.matches("[0-9]{1,3}");
            all.add(new Token(good ? t : "", m.start()));
        }
        all.add(new Token("END", text.length()));
        return all;
    }

    static Place read(String text) {
        Place p = new Place();
        List<Token> list = tokens(text);
        int i = 0;
        while (!list.get(i).text.equals("END")) {
            String word = list.get(i).text;
            switch (word) {
                case "chimney" -> {
                    if (p.chimneys.size() == 10) throw new Fault(4, list.get(i).place);
                    Chimney c = new Chimney();
                    c.x = bounded(list.get(++i), 0, 39);
                    c.height = bounded(list.get(++i), 0, 12);
                    c.smoke.add(bounded(list.get(++i), 1, 9));
                    while (list.get(i + 1).isNumber()) {
                        int more = bounded(list.get(++i), 1, 9);
                        if (c.smoke.size() == 6) throw new Fault(4, list.get(i).place);
                        c.smoke.add(more);
                    }
                    if (list.get(i + 1).text.equals("from")) {
                        i += 2;
                        c.from = bounded(list.get(i), 0, 23);
                    }
                    if (list.get(i + 1).text.equals("to")) {
                        i += 2;
                        c.to = bounded(list.get(i), c.from, 23);
                    }
                    p.chimneys.add(c);
                }
                case "wind" -> {
                    if (p.winds.size() == 12) throw new Fault(4, list.get(i).place);
                    int q = bounded(list.get(++i), 0, 47);
                    int low = bounded(list.get(++i), 0, 6);
                    int high = bounded(list.get(++i), 0, 6);
                    p.winds.add(new int[] {q, low, high});
                }
                case "layer" -> p.layer = bounded(list.get(++i), 0, 20);
                case "thick" -> p.thick = bounded(list.get(++i), 1, 9);
                case "fine" -> p.fine = bounded(list.get(++i), 0, 99);
                default -> throw new Fault(word.isEmpty() ? 1 : 2, list.get(i).place);
            }
            Token end = list.get(++i);
            if (!end.text.equals(";")) throw new Fault(end.text.isEmpty() ? 1 : 2, end.place);
            p.lines++;
            i++;
        }
        return p;
    }

    static int bounded(Token t, int least, int greatest) {
        if (t.text.isEmpty()) throw new Fault(1, t.place);
        if (!t.isNumber()) throw new Fault(2, t.place);
        int v = Integer.parseInt(t.text);
        if (v < least || v > greatest) throw new Fault(3, t.place);
        return v;
    }

    int fault(int what) {
        return what == 0 ? fault : what == 1 ? faultPlace : NONE;
    }

    boolean has(int c) {
        return c >= 0 && c < town.chimneys.size();
    }

    Chimney get(int c) {
        return town.chimneys.get(c);
    }

    boolean lit(int c) {
        return get(c).lit != NONE;
    }

    int size() {
        return town.chimneys.size();
    }

    int chimney(int c, int what) {
        if (!has(c)) return -2;
        Chimney it = get(c);
        if (what >= 10) return what - 10 < it.smoke.size() ? it.smoke.get(what - 10) : -7;
        return switch (what) {
            case 0 -> it.x;
            case 1 -> it.height;
            case 2 -> it.from;
            case 3 -> it.to;
            case 4 -> it.smoke.size();
            case 5 -> it.lit;
            default -> -2;
        };
    }

    int[] told(int q) {
        int[] blows = {NONE, 3, 3};
        for (int[] w : town.winds) if (w[0] <= q && w[0] >= blows[0]) blows = w;
        return new int[] {blows[1], blows[2]};
    }

    int wind(int q, boolean high) {
        return q < 0 || q > 47 ? -3 : told(q)[high ? 1 : 0];
    }

    // ---- puffs, one by one, quarter by quarter

    /** Where the k-th puff of a fire is in a quarter: x, height, thickness; null if it isn't. */
    int[] where(int c, int litIn, int k, int quarter, Sky sky, int raised) {
        Chimney it = get(c);
        if (k < 0 || k >= it.smoke.size() || quarter < litIn + k) return null;
        int x = it.x, h = it.height + raised, thickness = it.smoke.get(k);
        for (int q = litIn + k + 1; q <= quarter; q++) {
            x += (h < town.layer ? sky.at(q)[0] : sky.at(q)[1]) - 3;
            h++;
            thickness--;
            if (thickness == 0 || x < 0 || x > 39 || h > 24) return null;
        }
        return new int[] {x, h, thickness};
    }

    /** Quarters in which two fires touch. */
    TreeSet<Integer> together(int c, int qc, int d, int qd, Sky sky, int thick, int raisedC) {
        TreeSet<Integer> quarters = new TreeSet<>();
        for (int q = Math.max(qc, qd); q < 48; q++)
            for (int k = 0; k < 6; k++) {
                int[] a = where(c, qc, k, q, sky, raisedC);
                if (a == null || a[2] < thick) continue;
                for (int l = 0; l < 6; l++) {
                    int[] b = where(d, qd, l, q, sky, 0);
                    if (b != null && b[2] >= thick && a[0] == b[0] && a[1] == b[1]) quarters.add(q);
                }
            }
        return quarters;
    }

    TreeSet<Integer> together(int c, int d) {
        if (!lit(c) || !lit(d)) return new TreeSet<>();
        return together(c, get(c).lit, d, get(d).lit, this::told, town.thick, 0);
    }

    /** Whether a fire would touch one that is lit, itself aside. */
    boolean wouldTouch(int c, int q, Sky sky, int thick, int raised) {
        for (int d = 0; d < size(); d++)
            if (d != c && lit(d) && !together(c, q, d, get(d).lit, sky, thick, raised).isEmpty()) return true;
        return false;
    }

    int light(int c, int q) {
        if (!has(c)) return -2;
        if (lit(c)) return -5;
        if (q < get(c).from || q > get(c).to) return -3;
        get(c).lit = q;
        return 0;
    }

    int out(int c) {
        if (!has(c)) return -2;
        if (!lit(c)) return -5;
        int was = get(c).lit;
        get(c).lit = NONE;
        return was;
    }

    int cannot(long v) {
        long c = Math.floorDiv(v, 32L);
        int q = (int) Math.floorMod(v, 32L);
        if (c < 0 || c >= size() || q > 23) return 1;
        Chimney it = get((int) c);
        if (it.lit != NONE) return 2;
        if (q < it.from || q > it.to) return 3;
        return wouldTouch((int) c, q, this::told, town.thick, 0) ? 4 : 0;
    }

    int judge(int row, int what) {
        if (row < 0 || row > 3 || what < 0 || what > 2) return -2;
        if (rows[row] == null) return -6;
        Place before = town.again();
        int done = perform(row);
        int why = done == rows[row].length ? 0 : cannot(rows[row][done]);
        int litThen = count(1);
        town = before;
        return what == 0 ? (why == 0 ? NONE : done) : what == 1 ? why : litThen;
    }

    int perform(int row) {
        if (row < 0 || row > 3) return -2;
        if (rows[row] == null) return -6;
        int done = 0;
        for (long v : rows[row]) {
            if (cannot(v) != 0) break;
            get((int) (v / 32)).lit = (int) (v % 32);
            done++;
        }
        return done;
    }

    List<int[]> allPuffs(int q) {
        List<int[]> all = new ArrayList<>();
        for (int c = 0; c < size(); c++)
            for (int k = 0; k < 6 && lit(c); k++) {
                int[] p = where(c, get(c).lit, k, q, this::told, 0);
                if (p != null) all.add(p);
            }
        return all;
    }

    int smoke(int q, int x, int h) {
        if (x < 0 || x > 39 || h < 0 || h > 24) return -2;
        if (q < 0 || q > 47) return -3;
        int sum = 0;
        for (int[] p : allPuffs(q)) if (p[0] == x && p[1] == h) sum += p[2];
        return sum;
    }

    int puffs(int q) {
        return q < 0 || q > 47 ? -3 : allPuffs(q).size();
    }

    int puff(int c, int k, int q, boolean high) {
        if (!has(c)) return -2;
        if (q < 0 || q > 47) return -3;
        if (!lit(c)) return -5;
        int[] p = where(c, get(c).lit, k, q, this::told, 0);
        return p == null ? NONE : p[high ? 1 : 0];
    }

    int touch(int c, int d) {
        if (!has(c) || !has(d) || c == d) return -2;
        TreeSet<Integer> t = together(c, d);
        return t.isEmpty() ? NONE : t.first();
    }

    int touching(int c, int d) {
        if (!has(c) || !has(d) || c == d) return -2;
        return together(c, d).size();
    }

    int pair(int k) {
        List<int[]> found = new ArrayList<>();
        for (int c = 0; c < size(); c++)
            for (int d = c + 1; d < size(); d++)
                if (touch(c, d) != NONE) found.add(new int[] {touch(c, d), c, d});
        found.sort((a, b) -> a[0] != b[0] ? a[0] - b[0] : a[1] != b[1] ? a[1] - b[1] : a[2] - b[2]);
        if (k == NONE) return found.size();
        if (k < 0 || k >= found.size()) return NONE;
        return 1000 * found.get(k)[0] + 20 * found.get(k)[1] + found.get(k)[2];
    }

    int pays(int c) {
        if (!has(c)) return -2;
        int sum = 0;
        for (int d = 0; d < size(); d++) {
            if (d == c || !lit(c) || !lit(d)) continue;
            int later = get(c).lit > get(d).lit ? c : get(c).lit < get(d).lit ? d : Math.max(c, d);
            if (later == c) sum += town.fine * together(c, d).size();
        }
        return sum;
    }

    int soot(int x) {
        if (x < 0 || x > 39) return -2;
        int sum = 0;
        for (int q = 0; q < 48; q++) for (int[] p : allPuffs(q)) if (p[0] == x) sum += p[2];
        return sum;
    }

    int blackest() {
        int black = 0;
        for (int x = 0; x < 40; x++) if (soot(x) > soot(black)) black = x;
        return black;
    }

    // ---- lightings sought

    int free(int c) {
        if (!has(c)) return -2;
        int bits = 0;
        for (int q = get(c).from; q <= get(c).to; q++)
            if (!wouldTouch(c, q, this::told, town.thick, 0)) bits |= 1 << q;
        return bits;
    }

    List<Integer> unlit() {
        List<Integer> all = new ArrayList<>();
        for (int c = 0; c < size(); c++) if (!lit(c)) all.add(c);
        return all;
    }

    final Map<String, Boolean> pairCache = new HashMap<>();

    boolean apart(int c, int qc, int d, int qd) {
        return pairCache.computeIfAbsent(c + " " + qc + " " + d + " " + qd,
            x -> together(c, qc, d, qd, this::told, town.thick, 0).isEmpty());
    }

    /** All plans for some chimneys up to a quarter, in order; at most so many are sought. */
    List<int[]> allPlans(List<Integer> who, int upTo, int most) {
        pairCache.clear();
        int[] frees = new int[who.size()];
        for (int i = 0; i < frees.length; i++) frees[i] = free(who.get(i));
        List<int[]> found = new ArrayList<>();
        extend(who, frees, new int[who.size()], 0, upTo, most, found);
        return found;
    }

    private void extend(List<Integer> who, int[] frees, int[] q, int n, int upTo, int most, List<int[]> found) {
        if (found.size() >= most) return;
        if (n == q.length) {
            found.add(q.clone());
            return;
        }
        next:
        for (q[n] = 0; q[n] <= upTo; q[n]++) {
            if ((frees[n] >> q[n] & 1) == 0) continue;
            for (int m = 0; m < n; m++) if (!apart(who.get(m), q[m], who.get(n), q[n])) continue next;
            extend(who, frees, q, n + 1, upTo, most, found);
        }
    }

    /** How many lightings of those that aren't lit a plan would have to be sought among. */
    double planSpace() {
        double product = 1;
        for (int c : unlit()) product *= get(c).to - get(c).from + 1;
        return product;
    }

    int plan(int what) {
        if (what != 0 && what != 1 && !(what >= 10 && has(what - 10))) return -2;
        List<Integer> who = unlit();
        if (who.size() > 5) return -4;
        int[] best = null;
        for (int[] p : allPlans(who, 23, Integer.MAX_VALUE))
            if (best == null || latest(p) < latest(best) || latest(p) == latest(best) && sum(p) < sum(best)) best = p;
        if (best == null) return NONE;
        if (what == 0) return latest(best);
        if (what == 1) return sum(best);
        return lit(what - 10) ? get(what - 10).lit : best[who.indexOf(what - 10)];
    }

    static int latest(int[] p) {
        return Arrays.stream(p).max().orElse(0);
    }

    static int sum(int[] p) {
        return Arrays.stream(p).sum();
    }

    int plans() {
        List<Integer> who = unlit();
        return who.size() > 5 ? -4 : allPlans(who, 23, 100000).size();
    }

    static List<Integer> members(int set) {
        List<Integer> all = new ArrayList<>();
        for (int c = 0; c < 10; c++) if ((set >> c & 1) != 0) all.add(c);
        return all;
    }

    int bitsOfUnlit() {
        int bits = 0;
        for (int c : unlit()) bits |= 1 << c;
        return bits;
    }

    int shut() {
        if (unlit().size() > 5) return -4;
        int all = bitsOfUnlit(), least = 0;
        for (int set = 1; set < 1024; set++) {
            if ((set & all) != set || least != 0 && Integer.bitCount(set) >= Integer.bitCount(least)) continue;
            if (allPlans(members(set), 23, 1).isEmpty()) least = set;
        }
        return least;
    }

    int most(int quarter, int what) {
        if (what != 0 && what != 1) return -2;
        if (quarter < 0 || quarter > 23) return -3;
        if (unlit().size() > 5) return -4;
        int all = bitsOfUnlit(), most = 0;
        for (int set = 1; set < 1024; set++) {
            if ((set & all) != set || Integer.bitCount(set) <= Integer.bitCount(most)) continue;
            if (!allPlans(members(set), quarter, 1).isEmpty()) most = set;
        }
        return what == 0 ? Integer.bitCount(most) : most;
    }

    int price(int c, int q) {
        if (!has(c)) return -2;
        if (lit(c)) return -5;
        if (q < get(c).from || q > get(c).to) return NONE;
        int before = count(6);
        get(c).lit = q;
        int after = count(6);
        get(c).lit = NONE;
        return after - before;
    }

    int cheapest(int c) {
        if (!has(c)) return -2;
        if (lit(c)) return -5;
        int cheap = get(c).from;
        for (int q = cheap; q <= get(c).to; q++) if (price(c, q) < price(c, cheap)) cheap = q;
        return cheap;
    }

    int higher(int c) {
        if (!has(c)) return -2;
        if (!lit(c)) return -5;
        for (int by = 0; by <= 12; by++) if (!wouldTouch(c, get(c).lit, this::told, town.thick, by)) return by;
        return NONE;
    }

    boolean someTouch(Sky sky, int thick) {
        for (int c = 0; c < size(); c++) if (lit(c) && wouldTouch(c, get(c).lit, sky, thick, 0)) return true;
        return false;
    }

    int thickness() {
        int thick = 1;
        while (someTouch(this::told, thick)) thick++;
        return thick;
    }

    /** The days that fit, or null; the code of a refusal is in refused then. */
    int refused;

    List<int[]> days(int row) {
        refused = 0;
        if (row < 0 || row > 3) refused = -2;
        else if (rows[row] == null) refused = -6;
        else if (size() > 3) refused = -4;
        else if (rows[row].length % 2 != 0) refused = -3;
        else
            for (int i = 0; i < rows[row].length; i += 2)
                if (rows[row][i] < 0 || rows[row][i] > 39 || rows[row][i + 1] < 0) refused = -3;
        if (refused != 0) return null;
        long[][][] soot = new long[size()][25][40];
        for (int c = 0; c < size(); c++)
            for (int lit = 0; lit < 24; lit++)
                for (int k = 0; k < 6; k++)
                    for (int q = 0; q < 48; q++) {
                        int[] p = where(c, lit, k, q, this::told, 0);
                        if (p != null) soot[c][lit + 1][p[0]] += p[2];
                    }
        List<int[]> found = new ArrayList<>();
        int[] day = new int[size()];
        dayByDay(rows[row], soot, day, 0, found);
        return found;
    }

    private void dayByDay(long[] told, long[][][] soot, int[] day, int n, List<int[]> found) {
        if (n < day.length) {
            for (day[n] = NONE; day[n] < 24; day[n]++)
                if (day[n] == NONE || day[n] >= get(n).from && day[n] <= get(n).to) dayByDay(told, soot, day, n + 1, found);
            return;
        }
        for (int i = 0; i < told.length; i += 2) {
            long sum = 0;
            for (int c = 0; c < day.length; c++) sum += soot[c][day[c] + 1][(int) told[i]];
            if (sum != told[i + 1]) return;
        }
        found.add(day.clone());
    }

    int sheets(int row) {
        List<int[]> days = days(row);
        return days == null ? refused : days.size();
    }

    int sheet(int row, int k, int c) {
        if (row < 0 || row > 3 || !has(c)) return -2;
        List<int[]> days = days(row);
        if (days == null) return refused;
        return k < 0 || k >= days.size() ? -5 : days.get(k)[c];
    }

    int sure(int row) {
        List<int[]> days = days(row);
        if (days == null) return refused;
        int bits = 0;
        for (int c = 0; c < size() && !days.isEmpty(); c++) {
            boolean always = true;
            for (int[] day : days) always &= day[c] != NONE;
            if (always) bits |= 1 << c;
        }
        return bits;
    }

    // ---- winds

    static Sky drawn(int seed) {
        int[][] winds = new int[48][2];
        long x = seed & 0xffffffffL;
        for (int[] w : winds)
            for (int i = 0; i < 2; i++) {
                x = (1103515245L * x + 12345) & 0xffffffffL;
                w[i] = (int) ((x >> 16) % 7);
            }
        return q -> winds[q];
    }

    int gusts(int seed) {
        Sky sky = drawn(seed);
        int found = 0;
        for (int c = 0; c < size(); c++)
            for (int d = c + 1; d < size(); d++)
                if (lit(c) && lit(d) && !together(c, get(c).lit, d, get(d).lit, sky, town.thick, 0).isEmpty()) found++;
        return found;
    }

    int calm(int n) {
        if (n < 1 || n > 60) return -3;
        int found = 0;
        for (int seed = 1; seed <= n; seed++) if (gusts(seed) == 0) found++;
        return found;
    }

    int steady(int k) {
        List<Integer> calm = new ArrayList<>();
        for (int w = 0; w < 49; w++) {
            int[] both = {w / 7, w % 7};
            if (!someTouch(q -> both, town.thick)) calm.add(w);
        }
        return k == NONE ? calm.size() : k < 0 || k >= calm.size() ? NONE : calm.get(k);
    }

    int best(int c, int n) {
        if (!has(c)) return -2;
        if (lit(c)) return -5;
        if (n < 1 || n > 20) return -3;
        int best = NONE, most = -1;
        for (int q = get(c).from; q <= get(c).to; q++) {
            int good = goodSeeds(c, q, n);
            if (good > most) {
                best = q;
                most = good;
            }
        }
        return best;
    }

    int goodSeeds(int c, int q, int n) {
        int good = 0;
        for (int seed = 1; seed <= n; seed++) if (!wouldTouch(c, q, drawn(seed), town.thick, 0)) good++;
        return good;
    }

    int breaks(int n) {
        if (n < 1 || n > 200) return -3;
        for (int seed = 1; seed <= n; seed++) if (gusts(seed) != 0) return seed;
        return NONE;
    }

    int worth(int c, int n) {
        int best = best(c, n);
        if (best < 0) return best;
        int open = 0;
        for (int seed = 1; seed <= n; seed++) {
            boolean some = false;
            for (int q = get(c).from; q <= get(c).to; q++) some |= !wouldTouch(c, q, drawn(seed), town.thick, 0);
            if (some) open++;
        }
        return open - goodSeeds(c, best, n);
    }

    int sky() {
        TreeSet<Integer> cells = new TreeSet<>();
        for (int q = 0; q < 48; q++) for (int[] p : allPuffs(q)) cells.add(100 * p[0] + p[1]);
        return cells.size() * 100 / 1000;
    }

    // ---- rows of numbers, images

    int numbers(int row, int sort, int n) {
        if (row < 0 || row > 3 || sort < 0 || sort > 3) return -2;
        if (n < 0 || n > 40) return -3;
        rows[row] = new long[n];
        sorts[row] = sort;
        return 0;
    }

    long write(int row, int i, long v) {
        if (row < 0 || row > 3) return -2;
        if (rows[row] == null) return -6;
        if (i < 0 || i >= rows[row].length) return -7;
        int drop = 64 - (8 << sorts[row]);
        rows[row][i] = v << drop >> drop;
        return rows[row][i];
    }

    int copy(int row) {
        if (row < 0 || row > 3) return -2;
        if (rows[row] == null) return -6;
        if (rows[row].length < size()) return -7;
        for (int c = 0; c < size(); c++) rows[row][c] = get(c).lit;
        return size();
    }

    int image(int i) {
        if (i < 0 || i > 1) return -2;
        images[i] = town.again();
        return 0;
    }

    int restore(int i) {
        if (i < 0 || i > 1) return -2;
        if (images[i] == null) return -5;
        town = images[i].again();
        return 0;
    }

    int count(int what) {
        switch (what) {
            case 0: return size();
            case 1: return size() - unlit().size();
            case 2: return town.winds.size();
            case 3: return town.layer;
            case 4: return town.thick;
            case 5: return town.fine;
            case 6: {
                int sum = 0;
                for (int c = 0; c < size(); c++) sum += pays(c);
                return sum;
            }
            case 7: return tape.length;
            case 8: return town.lines;
            default: return NONE;
        }
    }
}
