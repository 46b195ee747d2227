import java.util.function.Supplier;

/** Bounds of rows of numbers, images, refused calls and an object's calls, and of promises 39 to 44. */
public final class BoundsRowsTest {
    private static final int NONE = Bounds.NONE;
    private static final int LEAST = Bounds.LEAST;
    private static final int GREATEST = Bounds.GREATEST;

    private BoundsRowsTest() {
    }

    public static void main(String[] args) {
        rowsOfTheTerms();
        refusalsOfTheTerms();
        callsOfTheTerms();
        promise39();
        promise40();
        promise41();
        promise42();
        promise43();
        promise44();
        Bounds.end(39, 44);
    }

    private static void due(String call, long got, long want) {
        Bounds.due(call, got, want);
    }

    // ---- terms

    private static void rowsOfTheTerms() {
        Bounds.holds(0, "ROWS OF NUMBERS 0 to 3 are MISSING at first, or have 0 to 40 numbers of 8 bits (sort 0), 16 (1), 32 (2), 64 (3).", () -> {
            for (int row = 0; row < 4; row++) {
                SmokesApart it = new SmokesApart();
                due("missing at first", it.write(row, 0, 1), -6);
                it.numbers(row, row, 0);
                due("0 numbers", it.write(row, 0, 1), -7);
                for (int other = 0; other < 4; other++) due("the others are missing still", it.judge(other, 1), other == row ? 0 : -6);
                it.numbers(row, row, 40);
                due("40 numbers", it.write(row, 39, 1), 1);
                due("not 41", it.write(row, 40, 1), -7);
                long greatest = row == 3 ? Long.MAX_VALUE : (1L << (8 << row) - 1) - 1;
                due("its greatest", it.write(row, 0, greatest), greatest);
                due("its least", it.write(row, 0, -greatest - 1), -greatest - 1);
                if (row < 3) due("one more wraps around", it.write(row, 0, greatest + 1), -greatest - 1);
                if (row < 3) due("one less wraps around", it.write(row, 0, -greatest - 2), greatest);
            }
            due("no row 4", new SmokesApart().write(4, 0, 1), -2);
            due("no row -1", new SmokesApart().write(-1, 0, 1), -2);
        });
        Bounds.holds(0, "IMAGES 0 to 1: THE TOWN and what is lit (none at first).", () -> {
            for (int i = 0; i < 2; i++) {
                due("none at first", new SmokesApart().restore(i), -5);
                due("it can be made", new SmokesApart().image(i), 0);
                SmokesApart it = new SmokesApart();
                it.image(i);
                due("the other isn't", it.restore(1 - i), -5);
            }
            due("no image 2", new SmokesApart().image(2), -2);
            due("no image -1", new SmokesApart().image(-1), -2);
        });
    }

    private static void refusalsOfTheTerms() {
        String four = "chimney 5 0 2;".repeat(4);
        Bounds.holds(0, "Refused calls answer by a code and change nothing: -2 there is none such; -3 a number can't be; -4 too many; "
            + "-5 it can't be now; -6 a ROW OF NUMBERS is MISSING; -7 it has no such number; -30 less the FAULT: a text.", () -> {
            Bounds.refused("none such", Bounds.lively(), -2, it -> it.light(4, 5));
            Bounds.refused("a number can't be", Bounds.lively(), -3, it -> it.light(2, 1));
            Bounds.refused("too many", Bounds.busy("chimney 5 0 2;".repeat(6)), -4, it -> it.plan(0));
            Bounds.refused("it can't be now", Bounds.lively(), -5, it -> it.light(0, 4));
            Bounds.refused("missing", Bounds.lively(), -6, it -> it.perform(2));
            Bounds.refused("no such number", Bounds.lively(), -7, it -> it.write(0, 2, 1));
            Supplier<SmokesApart> read = () -> {
                SmokesApart it = Bounds.lively().get();
                it.town(0);
                Check.tell(it, Bounds.LIVELY);
                it.light(0, 3);
                Check.tell(it, "fine 100;");
                return it;
            };
            Bounds.refused("a text", read, -33, it -> Check.tell(it, "fine 100;"));
        });
        Bounds.holds(0, "(Of several that which the call tells first.)", () -> {
            Bounds.refused("light: -2, -3", Bounds.lively(), -2, it -> it.light(4, 24));
            Bounds.refused("light: -5, -3", Bounds.lively(), -5, it -> it.light(0, 24));
            Bounds.refused("judge: -2, -6", Bounds.lively(), -2, it -> it.judge(2, 3));
            Bounds.refused("smoke: -2, -3", Bounds.lively(), -2, it -> it.smoke(48, 40, 25));
            Bounds.refused("puff: -2, -3", Bounds.lively(), -2, it -> it.puff(4, 0, 48, true));
            Bounds.refused("puff: -3, -5", Bounds.lively(), -3, it -> it.puff(2, 0, 48, true));
            Bounds.refused("plan: -2, -4", Bounds.busy("chimney 5 0 2;".repeat(6)), -2, it -> it.plan(2));
            Bounds.refused("most: -2, -3, -4", Bounds.busy("chimney 5 0 2;".repeat(6)), -2, it -> it.most(24, 2));
            Bounds.refused("most: -3, -4", Bounds.busy("chimney 5 0 2;".repeat(6)), -3, it -> it.most(24, 0));
            Bounds.refused("sheets: -6, -4", Bounds.busy(four), -6, it -> it.sheets(2));
            Bounds.refused("sheets: -4, -3", Bounds.busy(four), -4, it -> it.sheets(0));
            Bounds.refused("sheet: -2, -6, -4", Bounds.busy(four), -2, it -> it.sheet(2, 0, 4));
            Bounds.refused("sheet: -6, -4", Bounds.busy(four), -6, it -> it.sheet(2, 0, 0));
            Bounds.refused("sheet: -4, -3, -5", Bounds.busy(four), -4, it -> it.sheet(0, -1, 0));
            Bounds.refused("sheet: -3, -5", Bounds.busy("chimney 5 0 2;"), -3, it -> it.sheet(0, -1, 0));
            Bounds.refused("best: -2, -3", Bounds.lively(), -2, it -> it.best(4, 21));
            Bounds.refused("best: -5, -3", Bounds.lively(), -5, it -> it.best(0, 21));
            Bounds.refused("worth: -5, -3", Bounds.lively(), -5, it -> it.worth(1, 0));
            Bounds.refused("numbers: -2, -3", Bounds.lively(), -2, it -> it.numbers(0, 4, 41));
            Bounds.refused("write: -2, -7", Bounds.lively(), -2, it -> it.write(4, 41, 1));
            Bounds.refused("write: -6, -7", Bounds.lively(), -6, it -> it.write(2, 41, 1));
            Bounds.refused("copy: -6, -7", Bounds.lively(), -6, it -> it.copy(2));
            Bounds.refused("restore: -2, -5", Bounds.lively(), -2, it -> it.restore(2));
        });
    }

    private static void callsOfTheTerms() {
        Bounds.holds(0, "An object is used for at most 512 calls after it has been made", () -> {
            Bounds.Call[] last = {it -> it.plan(10), it -> it.plans(), it -> it.breaks(200), it -> it.sky(), it -> it.count(6), it -> it.image(1),
                it -> it.town(0), it -> it.feed(1, 2, 3, 4, 5), it -> it.write(0, 1, 300), it -> it.perform(0), it -> it.restore(1)};
            for (int i = 0; i < last.length; i++) due("call 512, of kind " + i, last[i].on(used(511)), last[i].on(used(READY)));
        });
    }

    private static final int READY = 12;

    /** An object behind so many calls: some that come and go, and those that make it ready. */
    private static SmokesApart used(int calls) {
        SmokesApart it = new SmokesApart();
        for (int n = 0; n < calls - READY; n++) {
            if (n % 4 == 0) it.feed(0x66696e65, 0x20393b20, 0x20202020, 0x20202020, 0x20202020);
            if (n % 4 == 1) it.town(20);
            if (n % 4 == 2) it.numbers(n / 4 % 4, n % 3, 40);
            if (n % 4 == 3) it.image(0);
        }
        it.town(0);
        Check.tell(it, "chimney 5 0 4 4;chimney 6 1 3;chimney 20 0 1 from 2 to 9;wind 0 4 3;layer 2;fine 7;");
        it.light(1, 4);
        it.light(2, 5);
        Check.row(it, 0, 0, 5, 6);
        return it;
    }

    // ---- promises

    private static void promise39() {
        Bounds.holds(39, "A ROW OF NUMBERS has n numbers of a sort, all 0 (in place of another one): 0.", () -> {
            for (int row = 0; row < 4; row++)
                for (int sort = 0; sort < 4; sort++)
                    for (int n : new int[] {0, 1, 2, 38, 40}) {
                        SmokesApart it = Check.town("chimney 7 0 1;");
                        due("another one", it.numbers(row, 3 - sort, 40), 0);
                        for (int i = 0; i < 40; i++) it.write(row, i, i % 2 == 0 ? 7 : 1);
                        due("a row that tells much", it.sheets(row), 24);
                        due("in its place", it.numbers(row, sort, n), 0);
                        due("all 0: no soot at 0", it.sheets(row), n == 1 ? -3 : 25);
                        due("all 0: chimney 0 in 0", it.perform(row), Math.min(n, 1));
                        due("n numbers", it.write(row, n, 1), -7);
                        if (n > 0) due("of that sort", it.write(row, n - 1, 0x123456789abcdef8L), cut(sort));
                    }
        });
        Bounds.holds(39, "-2: no such ROW, sort; -3, and the ROW stays: n is below 0 or above 40.", () -> {
            for (int row : new int[] {-1, 4, LEAST, GREATEST})
                for (int n : new int[] {0, 40, -1, 41}) Bounds.refused("row " + row + " " + n, Bounds.lively(), -2, it -> it.numbers(row, 0, n));
            for (int sort : new int[] {-1, 4, LEAST, GREATEST})
                for (int n : new int[] {0, 40, -1, 41}) Bounds.refused("sort " + sort + " " + n, Bounds.lively(), -2, it -> it.numbers(0, sort, n));
            for (int n : new int[] {-1, 41, LEAST, GREATEST})
                for (int row = 0; row < 4; row++) {
                    int asked = row;
                    Bounds.refused("n " + n + " of row " + row, Bounds.lively(), -3, it -> it.numbers(asked, 0, n));
                }
        });
    }

    private static long cut(int sort) {
        return new long[] {-8, (short) 0xcdef8L, (int) 0x9abcdef8L, 0x123456789abcdef8L}[sort];
    }

    private static void promise40() {
        Bounds.holds(40, "Number i of a ROW OF NUMBERS is v, cut to its sort: as it is there.", () -> {
            long[][] cuts = {{0, 127, 127}, {0, 128, -128}, {0, 255, -1}, {0, 256, 0}, {0, -128, -128}, {0, -129, 127}, {0, -256, 0},
                {1, 32767, 32767}, {1, 32768, -32768}, {1, 65535, -1}, {1, 65536, 0}, {1, -32768, -32768}, {1, -32769, 32767},
                {2, GREATEST, GREATEST}, {2, 1L << 31, LEAST}, {2, (1L << 32) - 1, -1}, {2, 1L << 32, 0}, {2, LEAST, LEAST},
                {2, LEAST - 1L, GREATEST}, {3, Long.MAX_VALUE, Long.MAX_VALUE}, {3, Long.MIN_VALUE, Long.MIN_VALUE}, {3, 0, 0}, {3, -1, -1},
                {0, Long.MAX_VALUE, -1}, {0, Long.MIN_VALUE, 0}, {1, Long.MAX_VALUE, -1}, {1, Long.MIN_VALUE, 0}, {2, Long.MAX_VALUE, -1},
                {2, Long.MIN_VALUE, 0}};
            for (long[] c : cuts)
                for (int row = 0; row < 4; row++) {
                    SmokesApart it = new SmokesApart();
                    it.numbers(row, (int) c[0], 40);
                    due("sort " + c[0] + " of " + c[1] + ", the first", it.write(row, 0, c[1]), c[2]);
                    due("sort " + c[0] + " of " + c[1] + ", the last", it.write(row, 39, c[1]), c[2]);
                }
            SmokesApart it = Check.town("chimney 5 0 1;chimney 9 0 1;");
            it.numbers(0, 0, 2);
            it.write(0, 1, 256 + 32 + 5);
            due("it is there so", it.perform(0), 2);
            due("as 37", it.chimney(1, 5), 5);
            due("the others stay 0", it.chimney(0, 5), 0);
        });
        Bounds.holds(40, "-2: no such ROW; -6; -7.", () -> {
            for (int row : new int[] {-1, 4, LEAST, GREATEST})
                for (int i : new int[] {0, 40, -1}) Bounds.refused("row " + row + " " + i, Bounds.lively(), -2, it -> it.write(row, i, 5));
            for (int i : new int[] {0, 40, -1}) Bounds.refused("missing " + i, Bounds.lively(), -6, it -> it.write(2, i, 5));
            for (int i : new int[] {-1, 2, 39, 40, LEAST, GREATEST}) Bounds.refused("number " + i, Bounds.lively(), -7, it -> it.write(0, i, 5));
            for (int i : new int[] {-1, 0}) Bounds.refused("of none " + i, Bounds.lively(), -7, it -> it.write(3, i, 5));
            due("the first", Bounds.lively().get().write(0, 0, 5), 5);
            due("the last", Bounds.lively().get().write(0, 1, 5), 5);
        });
    }

    private static void promise41() {
        Bounds.holds(41, "QUARTERS in which CHIMNEYS are lit (NONE: not) come into a ROW from its first place on: how many.", () -> {
            for (int sort = 0; sort < 4; sort++) {
                SmokesApart it = Bounds.lit("chimney 6 0 2;chimney 23 0 1;", 0, 6, 1, 3);
                Check.row(it, 0, sort, 9, 9, 23, 1);
                due("two into four", it.copy(0), 2);
                due("6, 3, and what was there: both are lit", it.sheets(0), 24 * 24);
                Check.row(it, 0, sort, 9, 9);
                due("two into two", it.copy(0), 2);
                due("6, 3: one is lit", it.sheets(0), 24 * 25);
                it.out(1);
                due("6, NONE", it.copy(0), 2);
                due("NONE is no soot", it.sheets(0), -3);
                it.out(0);
                due("NONE, NONE", it.copy(0), 2);
                due("NONE is no lighting", it.judge(0, 1), 1);
                due("the first place", it.judge(0, 0), 0);
            }
            SmokesApart ten = Check.town("chimney 5 0 1;".repeat(10));
            ten.numbers(3, 0, 10);
            due("ten into ten", ten.copy(3), 10);
            ten.numbers(3, 0, 40);
            due("ten into forty", ten.copy(3), 10);
            SmokesApart none = new SmokesApart();
            none.numbers(0, 0, 0);
            due("none into none", none.copy(0), 0);
            none.numbers(0, 0, 40);
            due("none into forty", none.copy(0), 0);
            due("which stay 0", none.sheets(0), 1);
        });
        Bounds.holds(41, "-2: the ROW; -6; -7: it has not so many places (nothing comes).", () -> {
            for (int row : new int[] {-1, 4, LEAST, GREATEST}) Bounds.refused("row " + row, Bounds.lively(), -2, it -> it.copy(row));
            Bounds.refused("missing", Bounds.lively(), -6, it -> it.copy(2));
            Bounds.refused("missing, no chimneys", SmokesApart::new, -6, it -> it.copy(0));
            Bounds.refused("two places for four", Bounds.lively(), -7, it -> it.copy(0));
            Bounds.refused("no places", Bounds.lively(), -7, it -> it.copy(3));
            Supplier<SmokesApart> three = () -> {
                SmokesApart it = Bounds.lively().get();
                Check.row(it, 0, 1, 32 * 2 + 5, 32 * 3 + 6, 32 * 3 + 7);
                return it;
            };
            Bounds.refused("three places for four", three, -7, it -> it.copy(0));
            due("four for four", Bounds.lively().get().copy(1), 4);
            SmokesApart ten = Check.town("chimney 5 0 1;".repeat(10));
            ten.numbers(3, 0, 9);
            due("nine for ten", ten.copy(3), -7);
        });
    }

    private static String fullTown() {
        StringBuilder text = new StringBuilder();
        for (int c = 0; c < 10; c++) text.append("chimney ").append(39 - c).append(' ').append(12 - c).append(" 1 2 3 4 5 ").append(c % 9 + 1)
            .append(" from ").append(c).append(" to ").append(23 - c).append(';');
        for (int w = 0; w < 12; w++) text.append("wind ").append(4 * w + 3).append(' ').append(w % 7).append(' ').append(6 - w % 7).append(';');
        return text + "layer 20;thick 9;fine 99;";
    }

    private static void isFull(SmokesApart it) {
        int[] counts = {10, 10, 12, 20, 9, 99, it.count(6), it.count(7), 25};
        for (int i = 0; i < counts.length; i++) due("count " + i, it.count(i), counts[i]);
        for (int c = 0; c < 10; c++) {
            int[] told = {39 - c, 12 - c, c, 23 - c, 6, c + 1};
            for (int what = 0; what < 6; what++) due("chimney " + c + " " + what, it.chimney(c, what), told[what]);
            due("its first smoke", it.chimney(c, 10), 1);
            due("its last smoke", it.chimney(c, 15), c % 9 + 1);
        }
        for (int w = 0; w < 12; w++) {
            due("low wind " + w, it.wind(4 * w + 3, false), w % 7);
            due("high wind " + w, it.wind(4 * w + 3, true), 6 - w % 7);
        }
        due("no wind ahead", it.wind(2, false), 3);
    }

    private static void promise42() {
        Bounds.holds(42, "An IMAGE is made: 0.", () -> {
            for (int i = 0; i < 2; i++) {
                SmokesApart it = Check.town(fullTown());
                for (int c = 0; c < 10; c++) it.light(c, c + 1);
                due("of a full town", it.image(i), 0);
                isFull(it);
                it.town(0);
                due("of no town", it.image(1 - i), 0);
                it.restore(i);
                isFull(it);
                it.out(9);
                due("in place of another one", it.image(i), 0);
                it.light(9, 10);
                it.restore(i);
                due("the later one", it.chimney(9, 5), NONE);
                it.restore(1 - i);
                due("the other one", it.count(0), 0);
                due("no lines", it.count(8), 0);
            }
        });
        Bounds.holds(42, "-2.", () -> {
            for (int i : new int[] {-1, 2, LEAST, GREATEST}) Bounds.refused("image " + i, Bounds.lively(), -2, it -> it.image(i));
        });
    }

    private static void promise43() {
        Bounds.holds(43, "All that is in an IMAGE is as it was: 0.", () -> {
            SmokesApart it = Bounds.lively().get();
            it.image(1);
            due("restore 0", it.restore(0), 0);
            int[] first = {2, 1, 1, 6, 2, 3, 0, 20, 4};
            for (int i = 0; i < first.length; i++) due("count " + i, it.count(i), first[i]);
            due("lit", it.chimney(1, 5), 23);
            due("not lit", it.chimney(0, 5), NONE);
            due("its smoke", it.smoke(23, 2, 2), 2);
            due("its wind", it.wind(4, true), 4);
            due("the fault isn't in it", it.fault(0), 3);
            due("rows aren't in it", it.write(0, 1, 5), 5);
            due("restore 1", it.restore(1), 0);
            int[] second = {4, 2, 2, 2, 2, 7, 14, 20, 8};
            for (int i = 0; i < second.length; i++) due("count " + i, it.count(i), second[i]);
            due("touch", it.touch(0, 1), 4);
            it.out(0);
            it.light(2, 9);
            due("restore 1 again", it.restore(1), 0);
            due("as it was", it.chimney(0, 5), 3);
            due("and not as it wasn't", it.chimney(2, 5), NONE);
            due("the tape isn't in it", it.town(14), 2);
        });
        Bounds.holds(43, "-2; -5: none was made.", () -> {
            for (int i : new int[] {-1, 2, LEAST, GREATEST}) Bounds.refused("image " + i, Bounds.lively(), -2, it -> it.restore(i));
            Bounds.refused("none was made", Bounds.lively(), -5, it -> it.restore(1));
            for (int i = 0; i < 2; i++) {
                int asked = i;
                Bounds.refused("none was made at first", SmokesApart::new, -5, it -> it.restore(asked));
            }
        });
    }

    private static void counted(String state, SmokesApart it, int... counts) {
        for (int i = 0; i < counts.length; i++) due(state + ": count " + i, it.count(i), counts[i]);
    }

    private static void promise44() {
        Bounds.holds(44, "0 CHIMNEYS, 1 how many are lit, 2 winds told, 3 layer, 4 thick, 5 fine, 6 what all pay, 7 bytes on THE TAPE, 8 LINES.", () -> {
            counted("at first", new SmokesApart(), 0, 0, 0, 6, 2, 5, 0, 0, 0);
            SmokesApart least = Check.town("layer 0;thick 1;fine 0;");
            counted("the least", least, 0, 0, 0, 0, 1, 0, 0, 0, 3);
            SmokesApart most = Check.town("chimney 5 0 9 9 9 9 9 9;".repeat(10) + "wind 1 1 1;".repeat(12) + "layer 20;thick 9;fine 99;");
            for (int n = 0; n < 45; n++) most.feed(0, 0, 0, 0, 0);
            counted("the most", most, 10, 0, 12, 20, 9, 99, 0, 900, 25);
            for (int c = 0; c < 10; c++) most.light(c, 23);
            counted("the most, lit", most, 10, 10, 12, 20, 9, 99, 45 * 6 * 99, 900, 25);
            SmokesApart thin = Check.town("chimney 5 0 9 9 9 9 9 9;".repeat(10) + "thick 1;fine 99;");
            for (int c = 0; c < 10; c++) thin.light(c, 0);
            due("the most that all pay", thin.count(6), 45 * 14 * 99);
            SmokesApart lines = new SmokesApart();
            due("the most lines", Check.tell(lines, "fine1;".repeat(150)), 150);
            due("the most lines: counted", lines.count(8), 150);
        });
        Bounds.holds(44, "NONE for others.", () -> {
            for (int what : new int[] {-1, 9, LEAST, GREATEST}) Bounds.asks("what " + what, Bounds.lively(), NONE, it -> it.count(what));
            for (int what = 0; what < 9; what++) {
                int asked = what;
                Bounds.asks("what " + what, Bounds.lively(), new int[] {4, 2, 2, 2, 2, 7, 14, 20, 8}[what], it -> it.count(asked));
            }
        });
    }
}
