/** Bounds of winds that weren't told, and of promises 32 to 38. */
public final class BoundsWindsTest {
    private static final int NONE = Bounds.NONE;
    private static final int LEAST = Bounds.LEAST;
    private static final int GREATEST = Bounds.GREATEST;
    private static final int[] SEEDS = {LEAST, LEAST + 1, -2, -1, 0, 1, 2, 60, 200, GREATEST - 1, GREATEST};
    /** Lit in 0 and in a quarter from 1 to 6, they touch if the low wind of that quarter is 4, and only then. */
    private static final String GUSTY = "chimney 20 0 9 9 9 9 9 9;chimney 21 1 9 from 1 to 6;layer 20;";

    private BoundsWindsTest() {
    }

    public static void main(String[] args) {
        drawsOfTheTerms();
        steadyOfTheTerms();
        promise32();
        promise33();
        promise34();
        promise35();
        promise36();
        promise37();
        promise38();
        Bounds.end(32, 38);
    }

    private static void due(String call, long got, long want) {
        Bounds.due(call, got, want);
    }

    /** The winds of a seed by numbers that can't wrap around: [q][0] low, [q][1] high. */
    private static int[][] drawn(int seed) {
        int[][] winds = new int[48][2];
        long x = seed & 0xffffffffL;
        for (int[] both : winds)
            for (int i = 0; i < 2; i++) {
                x = (1103515245L * x + 12345L) % (1L << 32);
                both[i] = (int) ((x / 65536) % 7);
            }
        return winds;
    }

    /** Two far from each other at first: they touch if some winds on the way of the first sum up to what is told. */
    private static SmokesApart meeting(int quarter, int steps, int layer, int sum) {
        return Bounds.lit("chimney 20 0 9;chimney " + (20 + sum) + " " + steps + " 9;layer " + layer + ";", 0, quarter, 1, quarter + steps);
    }

    // ---- terms

    private static void drawsOfTheTerms() {
        Bounds.holds(0, "OTHER WINDS by a SEED (x, an int; a DRAW: x becomes 1103515245 x + 12345, it is x >>> 16)", () -> {
            for (int seed : SEEDS) for (int q = 1; q <= 23; q++) drawnWind("low", seed, q, 20, "9;", 1);
        });
        Bounds.holds(0, "QUARTER by QUARTER 0 to 47 the LOW wind is DRAW modulo 7, then the HIGH one.", () -> {
            for (int seed : SEEDS) {
                for (int q = 1; q <= 23; q++) drawnWind("high", seed, q, 0, "9;", 1);
                for (int q = 6; q <= 28; q++) {
                    drawnWind("low, late", seed, q, 20, "1 1 1 1 1 9;", 6);
                    drawnWind("high, late", seed, q, 0, "1 1 1 1 1 9;", 6);
                }
            }
        });
    }

    /** One at 20, and one above each place to which a wind may bring its smoke: it touches that one alone. */
    private static void drawnWind(String which, int seed, int q, int layer, String smoke, int late) {
        StringBuilder text = new StringBuilder("thick 8;layer " + layer + ";chimney 20 0 " + smoke);
        for (int w = 0; w < 7; w++) text.append("chimney ").append(17 + w).append(" 1 ").append(smoke);
        SmokesApart it = Bounds.lit(text.toString(), 0, q - late);
        int blows = drawn(seed)[q][layer == 0 ? 1 : 0];
        for (int w = 0; w < 7; w++) {
            it.light(1 + w, q - late + 1);
            due(which + " wind of seed " + seed + " in " + q + " is " + w, it.gusts(seed), w == blows ? 1 : 0);
            it.out(1 + w);
        }
    }

    private static void steadyOfTheTerms() {
        Bounds.holds(0, "STEADY WINDS: one LOW and one HIGH all day (49 of them; by 7 LOW and HIGH).", () -> {
            for (int low = 0; low < 7; low++) {
                SmokesApart it = meeting(10, 3, 2, 2 * (low - 3));
                int[] calm = new int[49];
                int found = 0;
                for (int w = 0; w < 49; w++) if (2 * (w / 7 - 3) + w % 7 - 3 != 2 * (low - 3)) calm[found++] = w;
                due("how many", it.steady(NONE), found);
                for (int k = 0; k < found; k++) due("the " + k + "th", it.steady(k), calm[k]);
                due("no more", it.steady(found), NONE);
            }
        });
        Bounds.holds(0, "CALM are winds by which none of those that are lit TOUCH.", () -> {
            SmokesApart it = Check.town(GUSTY);
            due("none lit", it.steady(NONE), 49);
            it.light(0, 0);
            due("one lit", it.steady(NONE), 49);
            it.light(1, 1);
            due("two lit", it.steady(NONE), 42);
            SmokesApart never = Bounds.lit("chimney 5 0 9;chimney 5 0 9;chimney 30 0 9;", 0, 0, 1, 0, 2, 0);
            due("by none", never.steady(NONE), 0);
            due("nor by any seed", never.calm(60), 0);
            for (int smoke = 1; smoke <= 9; smoke++)
                for (int thick = 1; thick <= 9; thick++) {
                    SmokesApart two = Bounds.lit("chimney 5 0 9;chimney 5 0 " + smoke + ";thick " + thick + ";", 0, 0, 1, 0);
                    boolean touch = smoke >= thick;
                    due(smoke + " by thick " + thick + ": steady", two.steady(NONE), touch ? 0 : 49);
                    due(smoke + " by thick " + thick + ": calm", two.calm(1), touch ? 0 : 1);
                    due(smoke + " by thick " + thick + ": breaks", two.breaks(1), touch ? 1 : NONE);
                    due(smoke + " by thick " + thick + ": gusts", two.gusts(1), touch ? 1 : 0);
                    two.out(1);
                    due(smoke + " by thick " + thick + ": best", two.best(1, 1), touch ? 1 : 0);
                }
        });
    }

    // ---- promises

    private static void promise32() {
        Bounds.holds(32, "How many pairs TOUCH by OTHER WINDS of a SEED.", () -> {
            SmokesApart ten = Check.town("chimney 5 0 9;".repeat(10));
            for (int seed : SEEDS) due("none lit, " + seed, ten.gusts(seed), 0);
            due("no chimneys", new SmokesApart().gusts(0), 0);
            for (int c = 0; c < 10; c++) {
                ten.light(c, 0);
                for (int seed : SEEDS) due(c + 1 + " lit, " + seed, ten.gusts(seed), c * (c + 1) / 2);
            }
            for (int seed : SEEDS) Bounds.asks("nothing changes", Bounds.busy("chimney 5 0 9;chimney 5 0 9;wind 0 0 6;", 0, 0, 1, 0), 1, it -> it.gusts(seed));
        });
    }

    private static void promise33() {
        Bounds.holds(33, "How many of SEEDS 1 to n (1 to 60) have CALM winds.", () -> {
            SmokesApart it = Bounds.lit(GUSTY, 0, 0, 1, 1);
            int calm = 0;
            for (int n = 1; n <= 60; n++) {
                if (drawn(n)[1][0] != 4) calm++;
                due("of " + n, it.calm(n), calm);
            }
            SmokesApart last = meeting(12, 3, 2, 1);
            due("all of 59", last.calm(59), 59);
            due("not the 60th", last.calm(60), 59);
            due("the 61st doesn't count", meeting(4, 4, 4, 6).calm(60), 60);
            due("but breaks it", meeting(4, 4, 4, 6).gusts(61), 1);
            due("seed 0 doesn't count", new SmokesApart().calm(1), 1);
            due("none lit", new SmokesApart().calm(60), 60);
            Bounds.asks("nothing changes", Bounds.busy(GUSTY, 0, 0, 1, 1), calm, one -> one.calm(60));
        });
        Bounds.holds(33, "-3.", () -> {
            for (int n : new int[] {0, 61, -1, LEAST, GREATEST}) Bounds.refused("n " + n, Bounds.lively(), -3, it -> it.calm(n));
            due("1", new SmokesApart().calm(1), 1);
        });
    }

    private static void promise34() {
        Bounds.holds(34, "STEADY WINDS that are CALM: how many (k NONE), else the k-th (by 7 LOW and HIGH).", () -> {
            SmokesApart none = new SmokesApart();
            due("all", none.steady(NONE), 49);
            for (int k = 0; k < 49; k++) due("the " + k + "th", none.steady(k), k);
            SmokesApart low = Bounds.lit(GUSTY, 0, 0, 1, 6);
            due("but low 4", low.steady(NONE), 42);
            for (int k = 0; k < 42; k++) due("low: the " + k + "th", low.steady(k), k < 28 ? k : k + 7);
            SmokesApart high = Bounds.lit(GUSTY + "layer 0;", 0, 0, 1, 6);
            due("but high 4", high.steady(NONE), 42);
            for (int k = 0; k < 42; k++) due("high: the " + k + "th", high.steady(k), k / 6 * 7 + (k % 6 < 4 ? k % 6 : k % 6 + 1));
            Bounds.asks("nothing changes", Bounds.busy(GUSTY, 0, 0, 1, 1), 35, it -> it.steady(28));
        });
        Bounds.holds(34, "NONE: not so many.", () -> {
            for (int k : new int[] {49, 50, GREATEST, -2, LEAST}) due("of all: " + k, new SmokesApart().steady(k), NONE);
            for (int k : new int[] {42, 48, GREATEST, -2, LEAST})
                Bounds.asks("of 42: " + k, Bounds.busy(GUSTY, 0, 0, 1, 1), NONE, it -> it.steady(k));
            due("of none", Bounds.lit("chimney 5 0 9;chimney 5 0 9;", 0, 0, 1, 0).steady(0), NONE);
            due("of none: how many", Bounds.lit("chimney 5 0 9;chimney 5 0 9;", 0, 0, 1, 0).steady(NONE), 0);
        });
    }

    /** In how many of seeds 1 to n the second of GUSTY, lit in a quarter from 1 to 6, touches none. */
    private static int goodSeeds(int quarter, int n) {
        int good = 0;
        for (int seed = 1; seed <= n; seed++) if (drawn(seed)[quarter][0] != 4) good++;
        return good;
    }

    private static int bestQuarter(int from, int to, int n) {
        int best = from;
        for (int q = from; q <= to; q++) if (goodSeeds(q, n) > goodSeeds(best, n)) best = q;
        return best;
    }

    private static String gusty(int from, int to) {
        return GUSTY.replace("from 1 to 6", "from " + from + " to " + to);
    }

    private static void promise35() {
        Bounds.holds(35, "TOUCHES none in most of SEEDS 1 to n (1 to 20), each with its OTHER WINDS, the least.", () -> {
            for (int from = 1; from <= 6; from++)
                for (int to = from; to <= 6; to++) {
                    SmokesApart it = Bounds.lit(gusty(from, to), 0, 0);
                    for (int n = 1; n <= 20; n++) due(from + " to " + to + " of " + n, it.best(1, n), bestQuarter(from, to, n));
                }
            due("always good in 0", Bounds.lit(gusty(0, 6), 0, 0).best(1, 20), 0);
            due("always good in 7", Bounds.lit(gusty(1, 7), 0, 0).best(1, 20), 7);
            due("good in 23 alone", Bounds.lit("chimney 5 0 9 9 9;chimney 5 0 9 from 20;", 0, 20).best(1, 20), 23);
            due("nobody lit: its from", Check.town("chimney 5 0 9 from 7;").best(0, 20), 7);
            due("from 23", Check.town("chimney 5 0 9 from 23;").best(0, 20), 23);
            due("good in none", Bounds.lit("chimney 5 0 9;chimney 5 0 9 from 6 to 6;", 0, 6).best(1, 20), 6);
            due("all but its to", Bounds.lit("chimney 5 0 9 9 9;chimney 5 0 9 from 6 to 9;", 0, 6).best(1, 1), 9);
            Bounds.asks("nothing changes", Bounds.busy(GUSTY, 0, 0), bestQuarter(1, 6, 20), it -> it.best(1, 20));
        });
        Bounds.holds(35, "-2; -5: it is lit; -3: n.", () -> refusedSeeds((it, c, n) -> it.best(c, n)));
    }

    /** A call about a chimney and so many seeds. */
    private interface OfSeeds {
        int ask(SmokesApart it, int c, int n);
    }

    private static void refusedSeeds(OfSeeds call) {
        for (int n : new int[] {1, 20, 0, 21}) {
            for (int c : new int[] {-1, 4, LEAST, GREATEST})
                Bounds.refused("chimney " + c + " of " + n, Bounds.lively(), -2, it -> call.ask(it, c, n));
            for (int c : new int[] {0, 1}) Bounds.refused("lit " + c + " of " + n, Bounds.lively(), -5, it -> call.ask(it, c, n));
        }
        for (int n : new int[] {0, 21, -1, LEAST, GREATEST})
            for (int c : new int[] {2, 3}) Bounds.refused("n " + n + " of " + c, Bounds.lively(), -3, it -> call.ask(it, c, n));
    }

    private static void promise36() {
        Bounds.holds(36, "The least SEED from 1 to n (1 to 200) by whose OTHER WINDS some TOUCH.", () -> {
            SmokesApart last = meeting(19, 3, 1, -6);
            due("the 200th alone", last.breaks(200), 200);
            due("not of 199", last.breaks(199), NONE);
            due("the 200th", last.gusts(200), 1);
            SmokesApart beyond = meeting(9, 4, 2, -9);
            due("the 201st is too late", beyond.breaks(200), NONE);
            due("the 201st", beyond.gusts(201), 1);
            SmokesApart first = Bounds.lit("chimney 5 0 9;chimney 5 0 9;", 0, 0, 1, 0);
            due("the first", first.breaks(1), 1);
            due("the first of all", first.breaks(200), 1);
            SmokesApart between = meeting(12, 3, 2, 1);
            due("the 60th", between.breaks(60), 60);
            due("the least", between.breaks(200), 60);
            due("not of 59", between.breaks(59), NONE);
            Bounds.asks("nothing changes", Bounds.busy(GUSTY, 0, 0, 1, 1), first4(), it -> it.breaks(200));
        });
        Bounds.holds(36, "NONE: none of them; -3 (as a number alone).", () -> {
            due("no chimneys", new SmokesApart().breaks(200), NONE);
            due("no chimneys, of 1", new SmokesApart().breaks(1), NONE);
            Bounds.asks("one lit", Bounds.busy(GUSTY, 0, 0), NONE, it -> it.breaks(200));
            for (int n : new int[] {0, 201, -1, LEAST, GREATEST}) Bounds.refused("n " + n, Bounds.lively(), -3, it -> it.breaks(n));
        });
    }

    /** The first seed whose low wind in quarter 1 is 4. */
    private static int first4() {
        int seed = 1;
        while (drawn(seed)[1][0] != 4) seed++;
        return seed;
    }

    private static void promise37() {
        Bounds.holds(37, "In how many more of SEEDS 1 to n (1 to 20) there is a QUARTER of its from to its to", () -> {
            for (int from = 1; from <= 6; from++)
                for (int to = from; to <= 6; to++) {
                    SmokesApart it = Bounds.lit(gusty(from, to), 0, 0);
                    for (int n = 1; n <= 20; n++) {
                        int open = 0;
                        for (int seed = 1; seed <= n; seed++) if (somewhereGood(seed, from, to)) open++;
                        due(from + " to " + to + " of " + n, it.worth(1, n), open - goodSeeds(bestQuarter(from, to, n), n));
                    }
                }
            due("nobody lit", Check.town("chimney 5 0 9;").worth(0, 20), 0);
            due("good in none", Bounds.lit("chimney 5 0 9;chimney 5 0 9 from 6 to 6;", 0, 6).worth(1, 20), 0);
            Bounds.asks("nothing changes", Bounds.busy(gusty(1, 1), 0, 0), 0, it -> it.worth(1, 20));
        });
        Bounds.holds(37, "-2; -5: it is lit; -3: n.", () -> refusedSeeds((it, c, n) -> it.worth(c, n)));
    }

    private static boolean somewhereGood(int seed, int from, int to) {
        for (int q = from; q <= to; q++) if (drawn(seed)[q][0] != 4) return true;
        return false;
    }

    private static void promise38() {
        Bounds.holds(38, "By how many hundredths of CELLS (X 0 to 39, heights 0 to 24) there is SMOKE at some time, cut.", () -> {
            due("no chimneys", new SmokesApart().sky(), 0);
            StringBuilder text = new StringBuilder();
            for (int c = 0; c < 9; c++) text.append("chimney ").append(4 * c).append(" 12 9;");
            for (int more = 1; more <= 9; more++) {
                SmokesApart it = Check.town(text + "chimney 39 0 " + more + ";");
                due("not lit", it.sky(), 0);
                it.light(9, 23);
                for (int lit = 0; lit <= 9; lit++) {
                    due(lit + " times 9 and " + more, it.sky(), (9 * lit + more) / 10);
                    it.light(lit, lit);
                }
            }
            SmokesApart twice = Bounds.lit("chimney 5 0 9 9;chimney 5 0 9;chimney 6 0 1;", 0, 0, 1, 7);
            due("each cell once: 9", twice.sky(), 0);
            twice.light(2, 0);
            due("and 1", twice.sky(), 1);
            due("out again", twice.out(2), 0);
            due("9 again", twice.sky(), 0);
            SmokesApart out = Bounds.lit("chimney 39 0 9;chimney 0 0 8;chimney 0 12 1;wind 0 4 4;", 0, 0);
            due("not out of all cells", out.sky(), 0);
            out.light(1, 0);
            due("1 and 8", out.sky(), 0);
            out.light(2, 0);
            due("1 and 8 and 1", out.sky(), 1);
            StringBuilder forked = new StringBuilder("wind 1 4 4;wind 2 3 3;");
            for (int c = 0; c < 7; c++) forked.append("chimney ").append(5 * c).append(" 0 9 9;");
            SmokesApart fork = Check.town(forked + "chimney 39 0 1;");
            for (int c = 0; c < 7; c++) fork.light(c, 0);
            due("7 times 9 and 8", fork.sky(), 11);
            fork.light(7, 0);
            due("and 1", fork.sky(), 12);
            Bounds.asks("nothing changes", Bounds.lively(), 0, SmokesApart::sky);
        });
    }
}
