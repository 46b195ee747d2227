import java.util.function.Supplier;

/** Bounds of cells, puffs, touching and lightings in a row, and of promises 7 to 19. */
public final class BoundsFiresTest {
    private static final int NONE = Bounds.NONE;
    private static final int LEAST = Bounds.LEAST;
    private static final int GREATEST = Bounds.GREATEST;
    /** Ten at one place, with all the smoke that can be told. */
    private static final String TEN = "chimney 5 0 9 9 9 9 9 9;".repeat(10) + "thick 1;fine 99;";

    private BoundsFiresTest() {
    }

    public static void main(String[] args) {
        cells();
        puffsGo();
        touching();
        lightings();
        promise7();
        promise8();
        promise9();
        promise10();
        promise11();
        promise12();
        promise13();
        promise14();
        promise15();
        promise16();
        promise17();
        promise18();
        promise19();
        Bounds.end(7, 19);
    }

    private static void due(String call, long got, long want) {
        Bounds.due(call, got, want);
    }

    private static SmokesApart ten(int quarter) {
        SmokesApart it = Check.town(TEN);
        for (int c = 0; c < 10; c++) it.light(c, quarter);
        return it;
    }

    /** Ten that are far from one another. */
    private static SmokesApart apart() {
        StringBuilder lines = new StringBuilder();
        for (int c = 0; c < 10; c++) lines.append("chimney ").append(4 * c).append(" 0 1;");
        return Check.town(lines.toString());
    }

    private static void judged(String row, SmokesApart it, int place, int why, int lit) {
        due(row + ": place", it.judge(0, 0), place);
        due(row + ": why", it.judge(0, 1), why);
        due(row + ": lit then", it.judge(0, 2), lit);
    }

    // ---- terms

    private static void cells() {
        Bounds.holds(0, "CELLS are X 0 to 39, heights 0 to 24.", () -> {
            SmokesApart it = Bounds.lit("chimney 0 0 7;chimney 39 0 8;chimney 39 12 9;", 0, 0, 1, 0, 2, 0);
            due("the first", it.smoke(0, 0, 0), 7);
            due("the last X", it.smoke(0, 39, 0), 8);
            due("the highest told", it.smoke(0, 39, 12), 9);
            due("the highest that smoke reaches", it.smoke(8, 39, 20), 1);
            for (int[] in : new int[][] {{0, 24}, {39, 24}, {20, 0}}) due("a cell", it.smoke(0, in[0], in[1]), 0);
            for (int[] beyond : new int[][] {{-1, 0}, {40, 0}, {0, -1}, {0, 25}, {-1, -1}, {40, 25}})
                due("no cell " + beyond[0] + " " + beyond[1], it.smoke(0, beyond[0], beyond[1]), -2);
        });
        Bounds.holds(0, "gives its k-th SMOKE (from 0 on) k QUARTERS later: a PUFF in the CELL of its X and HEIGHT.", () -> {
            SmokesApart it = Bounds.lit("chimney 7 3 1 2 3 4 5 6;wind 0 6 6;", 0, 2);
            due("not ahead of it", it.smoke(1, 7, 3), 0);
            for (int k = 0; k < 6; k++) due("smoke " + k, it.smoke(2 + k, 7, 3), k + 1);
            due("no more", it.smoke(8, 7, 3), 0);
            SmokesApart one = Bounds.lit("chimney 7 3 9;", 0, 0);
            due("in quarter 0", one.smoke(0, 7, 3), 9);
            due("once", one.smoke(1, 7, 3), 0);
        });
        Bounds.holds(0, "Each CHIMNEY is lit in one QUARTER, or not (at first none is).", () -> {
            SmokesApart it = Check.town(TEN);
            for (int c = 0; c < 10; c++) due("not at first " + c, it.chimney(c, 5), NONE);
            due("none", it.count(1), 0);
            it.light(9, 0);
            due("not twice", it.light(9, 1), -5);
            due("in one", it.chimney(9, 5), 0);
            due("one", it.count(1), 1);
        });
    }

    private static void puffsGo() {
        Bounds.holds(0, "In each QUARTER behind that one it goes by the wind of that QUARTER", () -> {
            SmokesApart it = Bounds.lit("chimney 20 0 9;wind 4 6 6;wind 5 5 5;wind 6 2 2;", 0, 4);
            int[] xs = {20, 22, 21, 20, 19};
            for (int q = 0; q < xs.length; q++) due("in " + (4 + q), it.puff(0, 0, 4 + q, false), xs[q]);
        });
        Bounds.holds(0, "(the LOW one, if the height it had was below layer, else the HIGH one), rises by 1, and is 1 thinner", () -> {
            SmokesApart it = Bounds.lit("chimney 20 1 5;layer 3;wind 0 2 5;", 0, 0);
            int[] xs = {20, 19, 18, 20, 22, NONE};
            for (int q = 0; q < xs.length; q++) {
                due("x in " + q, it.puff(0, 0, q, false), xs[q]);
                due("height in " + q, it.puff(0, 0, q, true), xs[q] == NONE ? NONE : 1 + q);
                if (xs[q] != NONE) due("smoke in " + q, it.smoke(q, xs[q], 1 + q), 5 - q);
            }
        });
        Bounds.holds(0, "at 0, or out of all CELLS, it is gone.", () -> {
            for (int smoke = 1; smoke <= 9; smoke++) {
                SmokesApart it = Bounds.lit("chimney 5 0 " + smoke + ";", 0, 0);
                due("the last quarter of " + smoke, it.smoke(smoke - 1, 5, smoke - 1), 1);
                due("there still", it.puffs(smoke - 1), 1);
                due("gone", it.puffs(smoke), 0);
                due("gone: where", it.puff(0, 0, smoke, false), NONE);
            }
            int[][] goes = {{38, 4, 39}, {39, 4, NONE}, {1, 2, 0}, {0, 2, NONE}, {36, 6, 39}, {37, 6, NONE}, {3, 0, 0}, {2, 0, NONE}};
            for (int[] g : goes) {
                String told = "chimney " + g[0] + " 0 9;wind 0 " + g[1] + " 3;wind 2 " + (6 - g[1]) + " 3;";
                SmokesApart it = Bounds.lit(told, 0, 0);
                due("from " + g[0] + " by " + g[1], it.puff(0, 0, 1, false), g[2]);
                due("how many", it.puffs(1), g[2] == NONE ? 0 : 1);
                due("and back, if it was there", it.puff(0, 0, 2, false), g[2] == NONE ? NONE : g[0]);
            }
        });
    }

    private static void touching() {
        Bounds.holds(0, "if PUFFS of both are in one CELL then, each not thinner than thick.", () -> {
            for (int smoke = 1; smoke <= 9; smoke++)
                for (int thick = 1; thick <= 9; thick++) {
                    SmokesApart it = Bounds.lit("chimney 5 0 " + smoke + ";chimney 5 0 9;thick " + thick + ";", 0, 6, 1, 6);
                    due(smoke + " by " + thick, it.touching(0, 1), Math.max(0, smoke - thick + 1));
                    due(smoke + " by " + thick + ", turned", it.touching(1, 0), Math.max(0, smoke - thick + 1));
                    due(smoke + " by " + thick + ", first", it.touch(0, 1), smoke < thick ? NONE : 6);
                }
            due("one cell aside", Bounds.lit("chimney 5 0 9;chimney 6 0 9;", 0, 0, 1, 0).touch(0, 1), NONE);
            due("one cell above", Bounds.lit("chimney 5 0 9;chimney 5 1 9;", 0, 0, 1, 0).touch(0, 1), NONE);
            due("one quarter later", Bounds.lit("chimney 5 0 9;chimney 5 0 9;", 0, 0, 1, 1).touch(0, 1), NONE);
        });
        Bounds.holds(0, "FAULT of it: who was lit later (of like ones the greater number)", () -> {
            String two = "chimney 5 0 9 9;chimney 5 0 9 9;fine 1;";
            int[][] lit = {{4, 5, 0, 9}, {5, 4, 9, 0}, {4, 4, 0, 10}, {0, 0, 0, 10}, {23, 23, 0, 10}, {4, 6, 0, 0}, {6, 4, 0, 0}};
            for (int[] l : lit) {
                SmokesApart it = Bounds.lit(two + "thick 1;", 1, l[1], 0, l[0]);
                due("0 in " + l[0] + ", 1 in " + l[1] + ": 0", it.pays(0), l[2]);
                due("0 in " + l[0] + ", 1 in " + l[1] + ": 1", it.pays(1), l[3]);
            }
        });
        Bounds.holds(0, "he pays fine for each QUARTER in which both TOUCH.", () -> {
            int[][] fines = {{0, 0}, {1, 14}, {98, 98 * 14}, {99, 99 * 14}};
            for (int[] f : fines) {
                SmokesApart it = Bounds.lit("chimney 5 0 9 9 9 9 9 9;".repeat(2) + "thick 1;fine " + f[0] + ";", 0, 0, 1, 0);
                due("fine " + f[0], it.pays(1), f[1]);
            }
            SmokesApart once = Bounds.lit("chimney 5 0 2;chimney 5 0 2;fine 99;", 0, 0, 1, 0);
            due("one quarter", once.pays(1), 99);
        });
    }

    private static void lightings() {
        Bounds.holds(0, "LIGHTINGS in a ROW: numbers 32 c + q: CHIMNEY c is lit in QUARTER q.", () -> {
            SmokesApart it = apart();
            Check.row(it, 0, 2, 0, 32 + 23, 32 * 9, 32 * 8 + 23);
            due("all", it.perform(0), 4);
            int[] lit = {0, 23, NONE, NONE, NONE, NONE, NONE, NONE, 23, 0};
            for (int c = 0; c < 10; c++) due("chimney " + c, it.chimney(c, 5), lit[c]);
        });
        Bounds.holds(0, "1 no such CHIMNEY, QUARTER (0 to 23)", () -> {
            SmokesApart it = Check.town(Bounds.LIVELY);
            long[] cannot = {24, 31, 32 + 24, 3 * 32 + 24, 3 * 32 + 31, 4 * 32, 4 * 32 + 23, -1, -9, -32, Long.MIN_VALUE, Long.MAX_VALUE,
                1L << 31, 1L << 32, 1L << 37, (1L << 37) + 3, -(1L << 37), GREATEST, LEAST};
            for (long v : cannot) {
                Check.row(it, 0, 3, v);
                judged("number " + v, it, 0, 1, 0);
            }
            for (long v : new long[] {0, 23, 32, 32 + 23, 3 * 32 + 1, 3 * 32 + 22}) {
                Check.row(it, 0, 3, v);
                judged("number " + v, it, NONE, 0, 1);
            }
            SmokesApart none = new SmokesApart();
            Check.row(none, 0, 3, 0);
            judged("no chimneys", none, 0, 1, 0);
            SmokesApart ten = apart();
            Check.row(ten, 0, 1, 9 * 32 + 23);
            judged("the tenth", ten, NONE, 0, 1);
            Check.row(ten, 0, 1, 10 * 32);
            judged("an eleventh", ten, 0, 1, 0);
            Check.row(ten, 0, 0, 4 * 32);
            judged("128 of 8 bits wraps around", ten, 0, 1, 0);
            Check.row(ten, 0, 0, 256 + 32 + 5);
            due("293 of 8 bits wraps around", ten.perform(0), 1);
            due("to chimney 1, quarter 5", ten.chimney(1, 5), 5);
        });
        Bounds.holds(0, "2 it is lit;", () -> {
            SmokesApart it = Bounds.lit(Bounds.LIVELY, 3, 22);
            Check.row(it, 0, 1, 3 * 32 + 22);
            judged("in that quarter", it, 0, 2, 1);
            Check.row(it, 0, 1, 3 * 32 + 1);
            judged("in another", it, 0, 2, 1);
            Check.row(it, 0, 1, 7, 7);
            judged("by the row itself", it, 1, 2, 2);
        });
        Bounds.holds(0, "3 q is not within its from and to", () -> {
            SmokesApart it = Check.town(Bounds.LIVELY);
            int[][] quarters = {{1, 3}, {2, 0}, {9, 0}, {10, 3}, {0, 3}, {23, 3}};
            for (int[] q : quarters) {
                Check.row(it, 0, 1, 2 * 32 + q[0]);
                judged("quarter " + q[0], it, q[1] == 0 ? NONE : 0, q[1], q[1] == 0 ? 1 : 0);
            }
        });
        Bounds.holds(0, "4 it would TOUCH one that is lit.", () -> {
            SmokesApart it = Bounds.lit(Bounds.LIVELY, 0, 3);
            for (int q = 2; q <= 7; q++) {
                boolean touches = q == 4 || q == 5;
                Check.row(it, 0, 1, 32 + q);
                judged("quarter " + q, it, touches ? 0 : NONE, touches ? 4 : 0, touches ? 1 : 2);
            }
            SmokesApart row = Check.town(Bounds.LIVELY);
            Check.row(row, 0, 1, 3, 32 + 4);
            judged("one that the row lights", row, 1, 4, 1);
            Check.row(row, 0, 1, 32 + 4, 3);
            judged("the earlier one comes later in the row", row, 1, 4, 1);
        });
        Bounds.holds(0, "(Of one number that which is told first.)", () -> {
            SmokesApart it = Bounds.lit("chimney 5 0 9 from 4;chimney 5 0 9 from 5 to 6;", 0, 4);
            Check.row(it, 0, 1, 24);
            judged("1 and 2", it, 0, 1, 1);
            Check.row(it, 0, 1, 3);
            judged("2 and 3", it, 0, 2, 1);
            Check.row(it, 0, 1, 32 + 4);
            judged("3 and 4", it, 0, 3, 1);
        });
    }

    // ---- promises

    private static void promise7() {
        Bounds.holds(7, "A CHIMNEY is lit in a QUARTER, whatever TOUCHES: 0.", () -> {
            SmokesApart it = Check.town(TEN);
            for (int c = 0; c < 10; c++) due("light " + c, it.light(c, 0), 0);
            due("all", it.count(1), 10);
            due("touch", it.pair(NONE), 45);
            SmokesApart last = Check.town("chimney 5 0 1;chimney 5 0 1 from 23;chimney 5 0 1 to 0;");
            due("in the first", last.light(2, 0), 0);
            due("in the last", last.light(1, 23), 0);
            due("in any", last.light(0, 23), 0);
        });
        Bounds.holds(7, "-2: the CHIMNEY; -5: it is lit; -3: the QUARTER isn't from its from to its to.", () -> {
            for (int c : new int[] {-1, 4, 10, LEAST, GREATEST})
                for (int q : new int[] {5, -1, 24}) Bounds.refused("chimney " + c + " in " + q, Bounds.lively(), -2, it -> it.light(c, q));
            for (int q : new int[] {3, 5, -1, 24, LEAST, GREATEST}) Bounds.refused("lit 0 in " + q, Bounds.lively(), -5, it -> it.light(0, q));
            for (int q : new int[] {1, 10, 0, 23, -1, 24, LEAST, GREATEST}) Bounds.refused("2 in " + q, Bounds.lively(), -3, it -> it.light(2, q));
            for (int q : new int[] {0, 23}) Bounds.refused("3 in " + q, Bounds.lively(), -3, it -> it.light(3, q));
            due("at its from", Bounds.lively().get().light(2, 2), 0);
            due("at its to", Bounds.lively().get().light(2, 9), 0);
            due("the other at its from", Bounds.lively().get().light(3, 1), 0);
            due("the other at its to", Bounds.lively().get().light(3, 22), 0);
            Bounds.refused("no chimneys", SmokesApart::new, -2, it -> it.light(0, 0));
            due("below 0", Check.town("chimney 1 1 1;").light(0, -1), -3);
            due("above 23", Check.town("chimney 1 1 1;").light(0, 24), -3);
        });
    }

    private static void promise8() {
        Bounds.holds(8, "A CHIMNEY is not lit: in which QUARTER it was.", () -> {
            SmokesApart it = Bounds.lit(TEN, 0, 0, 9, 23);
            due("the first", it.out(0), 0);
            due("the last", it.out(9), 23);
            due("none is lit", it.count(1), 0);
            due("lit again", it.light(9, 22), 0);
            due("and out again", it.out(9), 22);
        });
        Bounds.holds(8, "-2; -5: it isn't.", () -> {
            for (int c : new int[] {-1, 4, 10, LEAST, GREATEST}) Bounds.refused("chimney " + c, Bounds.lively(), -2, it -> it.out(c));
            for (int c : new int[] {2, 3}) Bounds.refused("chimney " + c, Bounds.lively(), -5, it -> it.out(c));
            Bounds.refused("no chimneys", SmokesApart::new, -2, it -> it.out(0));
            SmokesApart it = Bounds.lit(TEN, 3, 3);
            due("once", it.out(3), 3);
            due("not twice", it.out(3), -5);
        });
    }

    private static void promise9() {
        Bounds.holds(9, "LIGHTINGS in a ROW, judged as if done", () -> {
            Bounds.asks("place", Bounds.lively(), NONE, it -> it.judge(0, 0));
            Bounds.asks("why", Bounds.lively(), 0, it -> it.judge(0, 1));
            Bounds.asks("lit then", Bounds.lively(), 4, it -> it.judge(0, 2));
            Bounds.asks("one that can't be: place", Bounds.lively(), 0, it -> it.judge(1, 0));
            Bounds.asks("one that can't be: why", Bounds.lively(), 2, it -> it.judge(1, 1));
        });
        Bounds.holds(9, "what 0: the first place that can't be (NONE), 1: why (0), 2: how many CHIMNEYS are lit then.", () -> {
            SmokesApart it = apart();
            it.numbers(0, 0, 0);
            judged("an empty row", it, NONE, 0, 0);
            for (int n = 1; n <= 10; n++) {
                it.numbers(0, 1, n);
                for (int i = 0; i < n; i++) it.write(0, i, 32 * i + 23);
                judged(n + " lightings", it, NONE, 0, n);
                it.write(0, n - 1, -1);
                judged("the last of " + n + " can't be", it, n - 1, 1, n - 1);
                it.write(0, 0, -1);
                judged("the first of " + n + " can't be", it, 0, 1, 0);
            }
            it.numbers(0, 1, 40);
            for (int i = 0; i < 40; i++) it.write(0, i, 32 * (i % 10));
            judged("a full row", it, 10, 2, 10);
            it.perform(0);
            judged("all lit", it, 0, 2, 10);
            it.numbers(0, 0, 0);
            judged("an empty row, all lit", it, NONE, 0, 10);
        });
        Bounds.holds(9, "-2: the ROW, what; -6.", () -> {
            for (int row : new int[] {-1, 4, LEAST, GREATEST})
                for (int what : new int[] {0, 2, 3}) Bounds.refused("row " + row + " " + what, Bounds.lively(), -2, it -> it.judge(row, what));
            for (int what : new int[] {-1, 3, LEAST, GREATEST})
                for (int row : new int[] {0, 2}) Bounds.refused("what " + what + " " + row, Bounds.lively(), -2, it -> it.judge(row, what));
            for (int what = 0; what < 3; what++) {
                int asked = what;
                Bounds.refused("missing", Bounds.lively(), -6, it -> it.judge(2, asked));
            }
            for (int row = 0; row < 4; row++) due("missing at first", new SmokesApart().judge(row, 0), -6);
            due("row 3", Bounds.lively().get().judge(3, 0), NONE);
        });
    }

    private static void promise10() {
        Bounds.holds(10, "They are done, till one can't be: how many.", () -> {
            for (int n = 0; n <= 10; n++) {
                SmokesApart it = apart();
                it.numbers(3, 1, 11);
                for (int i = 0; i < 11; i++) it.write(3, i, i == n ? 24 : 32 * i + 23);
                due("till place " + n, it.perform(3), n);
                due("lit", it.count(1), n);
                for (int c = 0; c < 10; c++) due("chimney " + c, it.chimney(c, 5), c < n ? 23 : NONE);
            }
            SmokesApart it = apart();
            it.numbers(0, 0, 0);
            due("an empty row", it.perform(0), 0);
            it.numbers(0, 3, 40);
            for (int i = 0; i < 40; i++) it.write(0, i, 32 * i);
            due("a full row", it.perform(0), 10);
            due("again", it.perform(0), 0);
            due("lit still", it.count(1), 10);
        });
        Bounds.holds(10, "-2; -6.", () -> {
            for (int row : new int[] {-1, 4, LEAST, GREATEST}) Bounds.refused("row " + row, Bounds.lively(), -2, it -> it.perform(row));
            Bounds.refused("missing", Bounds.lively(), -6, it -> it.perform(2));
            Bounds.refused("missing at first", SmokesApart::new, -6, it -> it.perform(3));
        });
    }

    private static void promise11() {
        Bounds.holds(11, "SMOKE of all PUFFS in a CELL in a QUARTER (0 to 47) together.", () -> {
            SmokesApart it = ten(0);
            due("ten at once", it.smoke(0, 5, 0), 90);
            due("the last of them", it.smoke(13, 5, 8), 10);
            due("none", it.smoke(14, 5, 9), 0);
            due("none in 47", it.smoke(47, 5, 0), 0);
            due("the latest that can be", ten(23).smoke(36, 5, 8), 10);
            due("and behind it", ten(23).smoke(37, 5, 9), 0);
            due("not lit", Check.town(TEN).smoke(0, 5, 0), 0);
        });
        Bounds.holds(11, "-2: no such CELL; -3: the QUARTER.", () -> {
            int[][] cells = {{-1, 0}, {40, 0}, {LEAST, 0}, {GREATEST, 0}, {0, -1}, {0, 25}, {0, LEAST}, {0, GREATEST}};
            for (int[] cell : cells)
                for (int q : new int[] {0, 47, -1, 48})
                    Bounds.refused("cell " + cell[0] + " " + cell[1] + " in " + q, Bounds.lively(), -2, it -> it.smoke(q, cell[0], cell[1]));
            for (int q : new int[] {-1, 48, LEAST, GREATEST})
                for (int[] cell : new int[][] {{0, 0}, {39, 24}})
                    Bounds.refused("quarter " + q, Bounds.lively(), -3, it -> it.smoke(q, cell[0], cell[1]));
            for (int q : new int[] {0, 47}) {
                due("the first cell in " + q, Bounds.lively().get().smoke(q, 0, 0), 0);
                due("the last cell in " + q, Bounds.lively().get().smoke(q, 39, 24), 0);
            }
        });
    }

    private static void promise12() {
        Bounds.holds(12, "How many PUFFS there are in a QUARTER.", () -> {
            SmokesApart it = ten(0);
            int[] puffs = {10, 20, 30, 40, 50, 60, 60, 60, 60, 50, 40, 30, 20, 10, 0};
            for (int q = 0; q < puffs.length; q++) due("in " + q, it.puffs(q), puffs[q]);
            due("in 47", it.puffs(47), 0);
            due("the latest", ten(23).puffs(36), 10);
            due("behind it", ten(23).puffs(37), 0);
            due("none lit", Check.town(TEN).puffs(0), 0);
        });
        Bounds.holds(12, "-3.", () -> {
            for (int q : new int[] {-1, 48, LEAST, GREATEST}) Bounds.refused("quarter " + q, Bounds.lively(), -3, it -> it.puffs(q));
            due("0", new SmokesApart().puffs(0), 0);
            due("47", new SmokesApart().puffs(47), 0);
        });
    }

    private static void promise13() {
        Bounds.holds(13, "X of a lit CHIMNEY's k-th PUFF in a QUARTER (high: its height).", () -> {
            SmokesApart it = Bounds.lit("chimney 39 12 9 9 9 9 9 9;wind 0 2 2;", 0, 23);
            for (int k = 0; k < 6; k++)
                for (int age = 0; age < 9; age++) {
                    due("x of " + k + " at age " + age, it.puff(0, k, 23 + k + age, false), 39 - age);
                    due("height of " + k + " at age " + age, it.puff(0, k, 23 + k + age, true), 12 + age);
                }
            SmokesApart first = Bounds.lit("chimney 0 0 1;", 0, 0);
            due("0 is an X", first.puff(0, 0, 0, false), 0);
            due("0 is a height", first.puff(0, 0, 0, true), 0);
        });
        Bounds.holds(13, "NONE: it is not there (yet, any more, at all)", () -> {
            Supplier<SmokesApart> made = Bounds.lively();
            int[][] asked = {{0, 2}, {1, 3}, {0, 7}, {1, 8}, {2, 5}, {-1, 4}, {6, 4}, {LEAST, 4}, {GREATEST, 4}, {0, 0}, {0, 47}};
            for (int[] a : asked) {
                Bounds.asks("puff " + a[0] + " in " + a[1], made, NONE, it -> it.puff(0, a[0], a[1], false));
                Bounds.asks("height of puff " + a[0] + " in " + a[1], made, NONE, it -> it.puff(0, a[0], a[1], true));
            }
            int[][] there = {{0, 3, 5, 0}, {0, 6, 7, 3}, {1, 4, 5, 0}, {1, 7, 7, 3}};
            for (int[] t : there) {
                due("puff " + t[0] + " in " + t[1], made.get().puff(0, t[0], t[1], false), t[2]);
                due("height of puff " + t[0] + " in " + t[1], made.get().puff(0, t[0], t[1], true), t[3]);
            }
            SmokesApart gone = Bounds.lit("chimney 39 0 9;wind 0 4 4;", 0, 0);
            due("out of all cells", gone.puff(0, 0, 1, false), NONE);
            due("out of all cells: its height", gone.puff(0, 0, 1, true), NONE);
        });
        Bounds.holds(13, "-2: the CHIMNEY; -3: the QUARTER; -5: it isn't lit (all as numbers alone).", () -> {
            for (int c : new int[] {-1, 4, LEAST, GREATEST})
                for (int q : new int[] {3, -1, 48}) Bounds.refused("chimney " + c + " in " + q, Bounds.lively(), -2, it -> it.puff(c, 0, q, false));
            for (int q : new int[] {-1, 48, LEAST, GREATEST})
                for (int c : new int[] {0, 2}) Bounds.refused("quarter " + q + " of " + c, Bounds.lively(), -3, it -> it.puff(c, 9, q, true));
            for (int q : new int[] {0, 47}) {
                Bounds.refused("not lit, in " + q, Bounds.lively(), -5, it -> it.puff(2, 0, q, false));
                Bounds.refused("not lit, and no such puff, in " + q, Bounds.lively(), -5, it -> it.puff(3, 6, q, true));
            }
        });
    }

    private static void promise14() {
        Bounds.holds(14, "The first QUARTER in which two CHIMNEYS TOUCH.", () -> {
            due("the first of all", ten(0).touch(0, 9), 0);
            String late = "chimney 5 0 1 1 1 1 1 9;".repeat(2);
            due("the latest that can be", Bounds.lit(late, 0, 23, 1, 23).touch(1, 0), 28);
            due("ahead of that, if thin smoke counts", Bounds.lit(late + "thick 1;", 0, 23, 1, 23).touch(1, 0), 23);
            String stairs = "chimney 5 0 9;chimney 5 8 9;thick 1;";
            due("by the last of one's smoke", Bounds.lit(stairs, 0, 0, 1, 8).touch(0, 1), 8);
            due("that is too thin", Bounds.lit(stairs + "thick 2;", 0, 0, 1, 8).touch(0, 1), NONE);
            due("gone", Bounds.lit("chimney 5 0 9;chimney 5 9 9;thick 1;", 0, 0, 1, 9).touch(0, 1), NONE);
        });
        Bounds.holds(14, "NONE: they don't, one isn't lit; -2: a CHIMNEY, both one (as a number alone).", () -> {
            String two = "chimney 5 0 9;chimney 5 0 9;";
            due("they don't", Bounds.lit(two, 0, 0, 1, 1).touch(0, 1), NONE);
            due("one isn't lit", Bounds.lit(two, 0, 0).touch(0, 1), NONE);
            due("the other isn't", Bounds.lit(two, 1, 0).touch(0, 1), NONE);
            due("neither is", Check.town(two).touch(0, 1), NONE);
            wrongPairs((it, c, d) -> it.touch(c, d));
        });
    }

    /** A call about two chimneys. */
    private interface OfTwo {
        int ask(SmokesApart it, int c, int d);
    }

    private static void wrongPairs(OfTwo call) {
        int[][] wrong = {{0, 0}, {3, 3}, {2, 2}, {0, -1}, {-1, 0}, {0, 4}, {4, 0}, {4, 4}, {-1, -1}, {LEAST, 0}, {0, GREATEST}, {2, 4}};
        for (int[] w : wrong) Bounds.refused("of " + w[0] + " and " + w[1], Bounds.lively(), -2, it -> call.ask(it, w[0], w[1]));
        due("the last two", call.ask(Bounds.lively().get(), 2, 3) <= 0 ? 1 : 0, 1);
        Bounds.refused("no chimneys", SmokesApart::new, -2, it -> call.ask(it, 0, 1));
    }

    private static void promise15() {
        Bounds.holds(15, "In how many QUARTERS two TOUCH.", () -> {
            due("the most", ten(23).touching(9, 0), 14);
            due("one", Bounds.lit("chimney 5 0 2;chimney 5 0 2;", 0, 23, 1, 23).touching(0, 1), 1);
            due("none", Bounds.lit("chimney 5 0 1;chimney 5 0 2;", 0, 23, 1, 23).touching(0, 1), 0);
            due("one isn't lit", Bounds.lit("chimney 5 0 2;chimney 5 0 2;", 0, 23).touching(0, 1), 0);
            due("till one is out of all cells", Bounds.lit("chimney 38 0 9;chimney 38 0 9;wind 0 4 4;", 0, 0, 1, 0).touching(0, 1), 2);
        });
        Bounds.holds(15, "-2.", () -> wrongPairs((it, c, d) -> it.touching(c, d)));
    }

    private static void promise16() {
        Bounds.holds(16, "by the first QUARTER, then by numbers: 1000 times the QUARTER, and 20 times the lesser CHIMNEY and the other one", () -> {
            SmokesApart all = ten(0);
            int k = 0;
            for (int c = 0; c < 10; c++) for (int d = c + 1; d < 10; d++) due("pair " + k, all.pair(k++), 20 * c + d);
            String late = "chimney 5 0 1 1 1 1 1 9;".repeat(10);
            due("the greatest", Bounds.lit(late, 8, 23, 9, 23).pair(0), 28000 + 20 * 8 + 9);
            SmokesApart turned = Bounds.lit("chimney 1 0 2;chimney 1 0 2;chimney 9 0 2;chimney 9 0 2;", 0, 1, 1, 1, 2, 0, 3, 0);
            due("the quarter comes first", turned.pair(0), 43);
            due("then the numbers", turned.pair(1), 1001);
        });
        Bounds.holds(16, "k NONE: how many pairs. NONE: not so many.", () -> {
            due("none", new SmokesApart().pair(NONE), 0);
            due("not the first of none", new SmokesApart().pair(0), NONE);
            Bounds.asks("one", Bounds.lively(), 1, it -> it.pair(NONE));
            Bounds.asks("the first", Bounds.lively(), 4001, it -> it.pair(0));
            for (int k : new int[] {1, -2, LEAST, GREATEST}) Bounds.asks("pair " + k, Bounds.lively(), NONE, it -> it.pair(k));
            due("all", ten(5).pair(NONE), 45);
            due("the last", ten(5).pair(44), 5000 + 20 * 8 + 9);
            due("no more", ten(5).pair(45), NONE);
        });
    }

    private static void promise17() {
        Bounds.holds(17, "What a CHIMNEY pays.", () -> {
            SmokesApart it = ten(0);
            for (int c = 0; c < 10; c++) due("chimney " + c, it.pays(c), c * 14 * 99);
            due("all", it.count(6), 45 * 14 * 99);
            due("not lit", Check.town(TEN).pays(9), 0);
            SmokesApart turned = Bounds.lit("chimney 5 0 9 9;chimney 5 0 9 9;chimney 5 0 9 9;fine 1;", 0, 9, 1, 8, 2, 7);
            int[] pays = {8, 8, 0};
            for (int c = 0; c < 3; c++) due("who was lit later: " + c, turned.pays(c), pays[c]);
            due("who was lit later: all", turned.count(6), 16);
        });
        Bounds.holds(17, "-2.", () -> {
            for (int c : new int[] {-1, 4, LEAST, GREATEST}) Bounds.refused("chimney " + c, Bounds.lively(), -2, it -> it.pays(c));
            Bounds.asks("the first", Bounds.lively(), 0, it -> it.pays(0));
            Bounds.asks("the last", Bounds.lively(), 0, it -> it.pays(3));
        });
    }

    private static void promise18() {
        Bounds.holds(18, "SOOT.", () -> {
            due("the most", ten(23).soot(5), 10 * 6 * 45);
            SmokesApart edges = Bounds.lit("chimney 0 0 3;chimney 39 12 4;", 0, 23, 1, 23);
            due("at 0", edges.soot(0), 6);
            due("at 39", edges.soot(39), 10);
            due("between", edges.soot(1), 0);
            SmokesApart out = Bounds.lit("chimney 38 0 9;wind 0 4 4;", 0, 0);
            due("but what is out of all cells", out.soot(38) + out.soot(39), 9 + 8);
            due("none lit", Check.town(TEN).soot(5), 0);
        });
        Bounds.holds(18, "-2: no such X.", () -> {
            for (int x : new int[] {-1, 40, LEAST, GREATEST}) Bounds.refused("x " + x, Bounds.lively(), -2, it -> it.soot(x));
            for (int x : new int[] {0, 39}) Bounds.asks("x " + x, Bounds.lively(), 0, it -> it.soot(x));
        });
    }

    private static void promise19() {
        Bounds.holds(19, "The X with the most SOOT, the least.", () -> {
            due("no soot at all", new SmokesApart().blackest(), 0);
            for (int x = 0; x < 40; x++) due("at " + x, Bounds.lit("chimney " + x + " 0 1;", 0, 0).blackest(), x);
            due("none lit", Check.town(TEN).blackest(), 0);
            due("the first X", Bounds.lit("chimney 0 0 1;chimney 39 0 1;", 0, 0, 1, 0).blackest(), 0);
            due("the last X", Bounds.lit("chimney 0 0 1;chimney 39 0 2;", 0, 0, 1, 0).blackest(), 39);
            due("of like ones the least", Bounds.lit("chimney 39 0 2;chimney 38 0 2;", 0, 0, 1, 0).blackest(), 38);
            due("one more", Bounds.lit("chimney 38 0 2;chimney 39 0 3;", 0, 0, 1, 0).blackest(), 39);
            Bounds.asks("nothing changes", Bounds.lively(), 6, SmokesApart::blackest);
        });
    }
}
