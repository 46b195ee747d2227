import java.nio.ByteBuffer;
import java.nio.charset.StandardCharsets;
import java.util.Arrays;
import java.util.Random;

/** Random runs of calls, each answered by SmokesApart and by PlainModel: both must say the same. */
public final class ModelTest {
    private static final int RUNS = Integer.getInteger("runs", 250);
    private static final int FIRST = Integer.getInteger("first", 1000);
    private static int wrong = 0;

    private final Random random;
    private final StringBuilder story = new StringBuilder();
    private final SmokesApart real = new SmokesApart();
    private final PlainModel plain = new PlainModel();

    private ModelTest(long seed) {
        random = new Random(seed);
    }

    public static void main(String[] args) {
        long calls = 0;
        for (int run = 0; run < RUNS && wrong < 5; run++) calls += new ModelTest(FIRST + run).go();
        System.out.println(calls + " calls told by the model, " + wrong + " runs went wrong");
        if (wrong != 0) System.exit(1);
    }

    /** From low to high, and now and then a bit outside. */
    private int in(int low, int high) {
        int r = random.nextInt(40);
        if (r == 0) return low - 1;
        if (r == 1) return high + 1;
        if (r == 2) return random.nextInt();
        return low + random.nextInt(high - low + 1);
    }

    private int of(int low, int high) {
        return low + random.nextInt(high - low + 1);
    }

    private boolean same(String call, long got, long due) {
        story.append(call).append(" = ").append(due).append('\n');
        if (got == due) return true;
        wrong++;
        System.out.println(story + "   but answered " + got);
        return false;
    }

    private String blank() {
        return random.nextInt(12) == 0 ? " \n " : " ";
    }

    /** Towns whose chimneys stand close and smoke much, so that much touches; some are spoilt. */
    private String townText(boolean maySpoil) {
        StringBuilder t = new StringBuilder();
        int chimneys = random.nextInt(5) == 0 ? of(0, 11) : random.nextInt(3) == 0 ? of(1, 3) : of(2, 7);
        if (!maySpoil) chimneys = Math.min(chimneys, 10);
        int at = of(0, 39), spread = of(0, 3), tall = of(0, 12), wide = of(0, 3);
        boolean thickly = random.nextBoolean();
        if (random.nextInt(3) > 0) t.append("thick").append(blank()).append(of(1, 4)).append(';');
        if (random.nextInt(2) > 0) t.append("layer ").append(of(0, 20)).append(" ;");
        for (int i = 0; i < chimneys; i++) {
            t.append("chimney").append(blank()).append(clamp(at + of(-spread, spread), 39)).append(blank());
            t.append(clamp(tall + of(-wide, wide), 12));
            int smokes = maySpoil && random.nextInt(60) == 0 ? 7 : thickly ? of(4, 6) : of(1, 6);
            for (int k = smokes; k > 0; k--) t.append(blank()).append(thickly ? of(5, 9) : of(1, 9));
            int from = 0;
            if (random.nextInt(2) > 0) t.append(" from ").append(from = of(0, random.nextInt(3) == 0 ? 23 : 6));
            if (random.nextInt(4) > 0) t.append(" to ").append(Math.min(23, from + of(0, 7)));
            t.append(random.nextInt(5) == 0 ? " ; " : ";");
        }
        int winds = random.nextInt(5) == 0 ? of(0, maySpoil ? 13 : 12) : of(0, 4), strong = of(0, 3);
        for (int w = winds; w > 0; w--)
            t.append("wind ").append(of(0, random.nextInt(3) == 0 ? 47 : 12)).append(' ').append(of(3 - strong, 3 + strong))
                .append(' ').append(of(3 - strong, 3 + strong)).append(';');
        if (random.nextInt(3) > 0) t.append("fine ").append(of(0, 99)).append(';');
        return maySpoil && random.nextInt(3) == 0 ? spoilt(t.toString()) : t.toString();
    }

    private static int clamp(int v, int greatest) {
        return Math.max(0, Math.min(greatest, v));
    }

    private String spoilt(String text) {
        String signs = " ;a0159\nzA,\u00e9\u0000-";
        String[] words = {"chimney ", "from ", "to ", "wind 0 3 3;", "1000", "chimney 1 1 1;", ";", "7 ", "fine"};
        StringBuilder t = new StringBuilder(text);
        for (int n = of(1, 2); n > 0; n--) {
            int at = random.nextInt(t.length() + 1);
            if (random.nextInt(3) == 0) t.insert(at, words[random.nextInt(words.length)]);
            else if (random.nextBoolean()) t.insert(at, signs.charAt(random.nextInt(signs.length())));
            else if (at < t.length()) t.deleteCharAt(at);
        }
        return t.toString();
    }

    private boolean tell(String text) {
        byte[] bytes = text.getBytes(StandardCharsets.ISO_8859_1);
        for (int i = 0; i < bytes.length; i += 20) {
            ByteBuffer b = ByteBuffer.wrap(Arrays.copyOf(Arrays.copyOfRange(bytes, i, i + 20), 20));
            int[] w = {b.getInt(), b.getInt(), b.getInt(), b.getInt(), b.getInt()};
            if (!same("feed", real.feed(w[0], w[1], w[2], w[3], w[4]), plain.feed(w[0], w[1], w[2], w[3], w[4]))) return false;
        }
        int n = random.nextInt(30) == 0 ? in(0, bytes.length) : bytes.length;
        story.append(text.replace("\n", "\\n")).append('\n');
        return same("town " + n, real.town(n), plain.town(n))
            && same("fault 0", real.fault(0), plain.fault(0)) && same("fault 1", real.fault(1), plain.fault(1));
    }

    private int go() {
        if (!tell(townText(random.nextInt(8) == 0)) || !lightMany()) return 1;
        int calls = of(60, 300);
        for (int i = 0; i < calls; i++) if (!step()) return i;
        return calls;
    }

    private boolean step() {
        int what = random.nextInt(100);
        if (what < 12) return lightSome();
        if (what < 30) return askFires();
        if (what < 55) return askSmoke();
        if (what < 75) return seek();
        if (what < 85) return blow();
        return keep();
    }

    private boolean lightMany() {
        for (int n = random.nextInt(4) == 0 ? 0 : of(0, plain.size()); n > 0; n--) if (!lightSome()) return false;
        return true;
    }

    private boolean lightSome() {
        int c = in(0, Math.max(0, plain.size() - 1));
        if (random.nextInt(4) == 0) return same("out " + c, real.out(c), plain.out(c));
        int q = plain.has(c) ? in(plain.get(c).from, plain.get(c).to) : in(0, 23);
        return same("light " + c + " " + q, real.light(c, q), plain.light(c, q));
    }

    private boolean askFires() {
        int c = in(0, Math.max(0, plain.size() - 1)), k = in(0, 16), row = in(0, 3), w = in(0, 2), q = in(0, 47);
        boolean high = random.nextBoolean();
        switch (random.nextInt(6)) {
            case 0: return same("chimney " + c + " " + k, real.chimney(c, k), plain.chimney(c, k));
            case 1: return same("wind " + q + high, real.wind(q, high), plain.wind(q, high));
            case 2: return tellLightings(row) && same("perform " + row, real.perform(row), plain.perform(row));
            case 3: return same("count " + q % 10, real.count(q % 10), plain.count(q % 10));
            default: return tellLightings(row) && same("judge " + row + " " + w, real.judge(row, w), plain.judge(row, w));
        }
    }

    private boolean tellLightings(int row) {
        int n = of(0, 5), sort = of(0, 3);
        if (!same("numbers " + row, real.numbers(row, sort, n), plain.numbers(row, sort, n))) return false;
        for (int i = 0; i < n; i++) {
            int c = in(0, Math.max(0, plain.size() - 1));
            int q = plain.has(c) ? in(plain.get(c).from, plain.get(c).to) : in(0, 31);
            if (!put(row, i, 32L * c + q)) return false;
        }
        return true;
    }

    private boolean put(int row, int i, long v) {
        return same("write " + row + " " + i + " " + v, real.write(row, i, v), plain.write(row, i, v));
    }

    private boolean askSmoke() {
        int c = in(0, Math.max(0, plain.size() - 1)), d = in(0, Math.max(0, plain.size() - 1));
        int q = random.nextInt(4) == 0 ? in(0, 47) : in(0, 20), x = in(0, 39), k = in(0, 5), h = in(0, 24);
        boolean high = random.nextBoolean();
        switch (random.nextInt(10)) {
            case 0: {
                for (int i = 0; i < 5 && !plain.town.chimneys.isEmpty(); i++) {
                    PlainModel.Chimney one = plain.get(random.nextInt(plain.size()));
                    int[] p = one.lit == -1 ? null : plain.where(plain.town.chimneys.indexOf(one), one.lit, k, q, plain::told, 0);
                    if (p != null && !same("smoke", real.smoke(q, p[0], p[1]), plain.smoke(q, p[0], p[1]))) return false;
                }
                return same("smoke " + q + " " + x + " " + h, real.smoke(q, x, h), plain.smoke(q, x, h));
            }
            case 1: return same("puffs " + q, real.puffs(q), plain.puffs(q));
            case 2: return same("puff " + c + " " + k + " " + q + high, real.puff(c, k, q, high), plain.puff(c, k, q, high));
            case 3: return same("touch " + c + " " + d, real.touch(c, d), plain.touch(c, d));
            case 4: return same("touching " + c + " " + d, real.touching(c, d), plain.touching(c, d));
            case 5: return same("pair " + (k - 1), real.pair(k - 1), plain.pair(k - 1));
            case 6: return same("pays " + c, real.pays(c), plain.pays(c));
            case 7: return same("soot " + x, real.soot(x), plain.soot(x));
            case 8: return same("blackest", real.blackest(), plain.blackest());
            default: return same("sky", real.sky(), plain.sky());
        }
    }

    private boolean seek() {
        int c = in(0, Math.max(0, plain.size() - 1)), q = in(0, 23), w = in(0, 1), row = in(0, 3);
        boolean dear = plain.unlit().size() <= 5 && plain.planSpace() > 40000;
        switch (random.nextInt(11)) {
            case 0: return same("free " + c, real.free(c), plain.free(c));
            case 1: {
                int what = random.nextInt(3) == 0 ? in(0, 11) : 10 + c;
                return dear || same("plan " + what, real.plan(what), plain.plan(what));
            }
            case 2: return dear || same("plans", real.plans(), plain.plans());
            case 3: return dear || same("shut", real.shut(), plain.shut());
            case 4: return dear || same("most " + q + " " + w, real.most(q, w), plain.most(q, w));
            case 5: return same("price " + c + " " + q, real.price(c, q), plain.price(c, q));
            case 6: return same("cheapest " + c, real.cheapest(c), plain.cheapest(c));
            case 7: return same("higher " + c, real.higher(c), plain.higher(c));
            case 8: return same("thickness", real.thickness(), plain.thickness());
            default: return tellSheets(row) && askSheets(row, c);
        }
    }

    private boolean tellSheets(int row) {
        int n = 2 * of(0, random.nextInt(6) == 0 ? 20 : 4);
        if (random.nextInt(20) == 0) n = in(0, 40);
        int sort = of(random.nextInt(5) == 0 ? 0 : 1, 3);
        if (!same("numbers " + row, real.numbers(row, sort, n), plain.numbers(row, sort, n))) return false;
        boolean now = random.nextInt(3) > 0;
        for (int i = 0; i < Math.min(n, 42); i += 2) {
            int x = random.nextInt(15) == 0 ? in(0, 39) : plain.size() == 0 ? 3 : clamp(plain.get(0).x + of(-3, 3), 39);
            long soot = now && plain.soot(x) >= 0 ? plain.soot(x) : random.nextInt(40) == 0 ? random.nextLong() : of(0, 6);
            if (!put(row, i, x) || !put(row, i + 1, soot)) return false;
        }
        return true;
    }

    private boolean askSheets(int row, int c) {
        int days = plain.sheets(row);
        if (!same("sheets " + row, real.sheets(row), days) || !same("sure " + row, real.sure(row), plain.sure(row))) return false;
        for (int i = 0; i < 2; i++) {
            int k = in(0, Math.max(0, days - 1));
            if (!same("sheet " + row + " " + k + " " + c, real.sheet(row, k, c), plain.sheet(row, k, c))) return false;
        }
        return true;
    }

    private boolean blow() {
        int c = in(0, Math.max(0, plain.size() - 1)), n = random.nextInt(4) == 0 ? in(1, 20) : in(1, 5), seed = random.nextInt();
        switch (random.nextInt(6)) {
            case 0: return same("gusts " + seed, real.gusts(seed), plain.gusts(seed));
            case 1: return same("calm " + n, real.calm(n), plain.calm(n));
            case 2: return same("steady " + (n - 2), real.steady(n - 2), plain.steady(n - 2));
            case 3: return same("best " + c + " " + n, real.best(c, n), plain.best(c, n));
            case 4: return same("breaks " + n, real.breaks(n), plain.breaks(n));
            default: return same("worth " + c + " " + n, real.worth(c, n), plain.worth(c, n));
        }
    }

    private boolean keep() {
        int row = in(0, 3), n = in(0, 40), i = in(0, 1), sort = in(0, 3);
        switch (random.nextInt(9)) {
            case 0: return same("numbers " + row + " " + sort + " " + n, real.numbers(row, sort, n), plain.numbers(row, sort, n));
            case 1: return put(row, in(0, 40), random.nextLong() >> random.nextInt(64));
            case 2: return same("copy " + row, real.copy(row), plain.copy(row));
            case 3: return same("judge " + row, real.judge(row, 1), plain.judge(row, 1));
            case 4: return same("sheets " + row, real.sheets(row), plain.sheets(row));
            case 5: return same("image " + i, real.image(i), plain.image(i));
            case 6: return same("restore " + i, real.restore(i), plain.restore(i));
            case 7: return same("fault " + i, real.fault(i), plain.fault(i));
            default: return random.nextInt(3) > 0 || tell(townText(true)) && lightMany();
        }
    }
}
