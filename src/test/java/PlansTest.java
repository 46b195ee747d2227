import java.util.List;
import java.util.Random;

/**
 * Promises 21 to 24 in towns whose plans are too many for ModelTest: four or five chimneys that aren't lit, most of
 * them with all quarters to choose from. Which two may be lit when is asked of PlainModel; plans are gone through
 * one by one, none being left out but those in which two touch.
 */
public final class PlansTest {
    private static final int TOWNS = Integer.getInteger("towns", 24);
    private static final int QUARTERS = 24;

    private final SmokesApart real = new SmokesApart();
    private final PlainModel plain = new PlainModel();
    private final String text;
    private List<Integer> who;
    private int[] frees;
    private boolean[][][][] apart;
    private int[] chosen;
    private int[] best;
    private long found;
    private boolean firstAlone;

    private PlansTest(Random random) {
        text = townText(random);
        Check.tell(real, text);
        plain.town = PlainModel.read(text);
        int unlit = 4 + random.nextInt(2);
        for (int c = plain.size() - 1; c >= unlit; c--) {
            int q = random.nextInt(plain.get(c).to + 1);
            real.light(c, q);
            plain.light(c, q);
        }
    }

    public static void main(String[] args) {
        Random random = new Random(11);
        for (int i = 0; i < TOWNS; i++) new PlansTest(random).hold();
        Check.end();
    }

    /** Close and smoky towns have few plans or none, thinner ones have many. */
    private static String townText(Random random) {
        int high = random.nextInt(3), wide = 1 + random.nextInt(3), smokes = 2 + random.nextInt(5);
        StringBuilder t = new StringBuilder("thick " + (1 + random.nextInt(3)) + ";");
        for (int c = 5 + random.nextInt(3); c > 0; c--) {
            t.append("chimney ").append(10 + random.nextInt(wide)).append(' ').append(random.nextInt(high + 1));
            for (int k = 0; k < smokes; k++) t.append(' ').append(3 + random.nextInt(7));
            if (random.nextInt(5) == 0) t.append(" to ").append(random.nextInt(QUARTERS));
            t.append(';');
        }
        for (int w = random.nextInt(4); w > 0; w--)
            t.append("wind ").append(random.nextInt(20)).append(' ').append(2 + random.nextInt(3)).append(" 3;");
        return t.toString();
    }

    private void hold() {
        layTables();
        seek((1 << who.size()) - 1, QUARTERS - 1, false);
        due("plans", real.plans(), Math.min(found, 100000));
        due("plan 0", real.plan(0), best == null ? -1 : PlainModel.latest(best));
        due("plan 1", real.plan(1), best == null ? -1 : PlainModel.sum(best));
        for (int i = 0; i < who.size(); i++)
            due("plan of " + who.get(i), real.plan(10 + who.get(i)), best == null ? -1 : best[i]);
        int shut = found > 0 ? 0 : extreme(1, QUARTERS - 1);
        due("shut", real.shut(), chimneys(shut));
        for (int q = 0; q < QUARTERS; q += 1 + q / 3) {
            int most = extreme(-1, q);
            due("most " + q, real.most(q, 0), Integer.bitCount(most));
            due("most " + q + ", who", real.most(q, 1), chimneys(most));
        }
    }

    private void due(String call, long got, long want) {
        Check.due(text + " " + call, got, want);
    }

    private void layTables() {
        who = plain.unlit();
        int n = who.size();
        frees = new int[n];
        apart = new boolean[n][QUARTERS][n][QUARTERS];
        for (int i = 0; i < n; i++) {
            frees[i] = plain.free(who.get(i));
            for (int j = i + 1; j < n; j++)
                for (int q = 0; q < QUARTERS; q++)
                    for (int r = 0; r < QUARTERS; r++)
                        apart[i][q][j][r] =
                            plain.together(who.get(i), q, who.get(j), r, plain::told, plain.town.thick, 0).isEmpty();
        }
    }

    private void seek(int set, int upTo, boolean first) {
        chosen = new int[who.size()];
        best = null;
        found = 0;
        firstAlone = first;
        extend(0, set, upTo);
    }

    private void extend(int i, int set, int upTo) {
        if (i == who.size()) {
            found++;
            if (best == null || PlainModel.latest(chosen) < PlainModel.latest(best)
                || PlainModel.latest(chosen) == PlainModel.latest(best) && PlainModel.sum(chosen) < PlainModel.sum(best))
                best = chosen.clone();
            return;
        }
        if ((set >> i & 1) == 0) {
            extend(i + 1, set, upTo);
            return;
        }
        for (int q = 0; q <= upTo && !(firstAlone && found > 0); q++) {
            chosen[i] = q;
            if ((frees[i] >> q & 1) != 0 && fits(i, q, set)) extend(i + 1, set, upTo);
        }
    }

    private boolean fits(int i, int q, int set) {
        for (int h = 0; h < i; h++) if ((set >> h & 1) != 0 && !apart[h][chosen[h]][i][q]) return false;
        return true;
    }

    /** Side 1: the smallest set without a plan; -1: the greatest with one; of like ones the least. */
    private int extreme(int side, int upTo) {
        int extreme = 0;
        for (int set = 1; set < 1 << who.size(); set++) {
            seek(set, upTo, true);
            boolean better = extreme == 0 || side * Integer.bitCount(set) < side * Integer.bitCount(extreme);
            if (better && found > 0 == side < 0) extreme = set;
        }
        return extreme;
    }

    private int chimneys(int set) {
        int bits = 0;
        for (int i = 0; i < who.size(); i++) if ((set >> i & 1) != 0) bits |= 1 << who.get(i);
        return bits;
    }
}
