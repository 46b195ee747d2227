import java.util.function.Supplier;

/** Bounds of lightings sought, and of promises 20 to 31. */
public final class BoundsSoughtTest {
    private static final int NONE = Bounds.NONE;
    private static final int LEAST = Bounds.LEAST;
    private static final int GREATEST = Bounds.GREATEST;
    /** Two such touch only if they are lit in one quarter, three and more likewise. */
    private static final String ALIKE = "chimney 5 0 2;";
    private static final String LONG = "chimney 5 0 9 9 9 9 9 9;";
    /** The first gives 6 soot to place 5, the second 3 to place 6, the third 1 to place 20. */
    private static final String SOOTY = "chimney 5 0 3 from 1 to 2;chimney 6 0 2;chimney 20 0 1 from 23;";
    /** Three that give 1 soot each to place 5, in whatever quarter. */
    private static final String THREE = "chimney 5 0 1;".repeat(3);

    private BoundsSoughtTest() {
    }

    public static void main(String[] args) {
        plansOfTheTerms();
        promise20();
        promise21();
        promise22();
        promise23();
        promise24();
        promise25();
        promise26();
        promise27();
        promise28();
        sheetsOfTheTerms();
        promise29();
        promise30();
        promise31();
        Bounds.end(20, 31);
    }

    private static void due(String call, long got, long want) {
        Bounds.due(call, got, want);
    }

    private static void planned(String text, int latest, int sum, int... quarters) {
        SmokesApart it = Check.town(text);
        due(text + " latest", it.plan(0), latest);
        due(text + " sum", it.plan(1), sum);
        for (int c = 0; c < quarters.length; c++) due(text + " chimney " + c, it.plan(10 + c), quarters[c]);
    }

    /** Six and more that aren't lit, in an object that has something of all. */
    private static Supplier<SmokesApart> crowd() {
        return Bounds.busy(ALIKE.repeat(7), 6, 3);
    }

    // ---- terms

    private static void plansOfTheTerms() {
        Bounds.holds(0, "FREE for a CHIMNEY are QUARTERS from its from to its to in which it would TOUCH none that is lit (itself aside).", () -> {
            due("one quarter", Check.town("chimney 5 0 2 from 7 to 7;").free(0), 1 << 7);
            SmokesApart it = Bounds.lit(ALIKE + "chimney 5 0 2 from 7 to 9;", 0, 8);
            due("but one", it.free(1), 1 << 7 | 1 << 9);
            it.light(1, 8);
            due("itself aside", it.free(1), 1 << 7 | 1 << 9);
            due("itself aside, the other", it.free(0), 0xffffff & ~(1 << 8));
            int all = 0xffffff;
            due("each of its quarters", Bounds.lit(ALIKE + "chimney 5 0 2 2 2;", 0, 8).free(1), all & ~(7 << 6));
            due("each of the other's", Bounds.lit("chimney 5 0 2 2 2;" + ALIKE, 0, 8).free(1), all & ~(7 << 8));
            due("but where it is too thin", Bounds.lit(ALIKE + "chimney 5 0 2 1 2;", 0, 8).free(1), all & ~(5 << 6));
            due("but where the other is", Bounds.lit("chimney 5 0 2 1 2;" + ALIKE, 0, 8).free(1), all & ~(5 << 8));
            due("thinned to thick", Bounds.lit("chimney 5 0 9;chimney 5 7 9;", 0, 8).free(1), all & ~(1 << 15));
            due("thinned below thick", Bounds.lit("chimney 5 0 9;chimney 5 8 9;", 0, 8).free(1), all);
            due("thinned to thick, the other", Bounds.lit("chimney 5 7 9;chimney 5 0 9;", 0, 15).free(1), all & ~(1 << 8));
            due("thinned below thick, the other", Bounds.lit("chimney 5 8 9;chimney 5 0 9;", 0, 16).free(1), all);
            due("it would be lit too late", Bounds.lit(LONG + "chimney 5 12 9;", 0, 23).free(1), all);
            due("it would be lit too early", Bounds.lit("chimney 5 12 9;" + LONG, 0, 0).free(1), all);
            SmokesApart ten = Bounds.lit(LONG.repeat(5) + "chimney 5 1 9 9 9 9 9 9;".repeat(5), 0, 23);
            due("the last of ten, one above", ten.free(9), all & ~(31 << 19));
        });
        Bounds.holds(0, "A PLAN lights all CHIMNEYS that aren't lit (5 at most), each in a QUARTER FREE for it, so that no two TOUCH", () -> {
            planned("", 0, 0);
            planned(ALIKE, 0, 0, 0);
            planned(ALIKE.repeat(5), 4, 10, 0, 1, 2, 3, 4);
            due("six", Check.town(ALIKE.repeat(6)).plan(0), -4);
            SmokesApart six = Bounds.lit(ALIKE.repeat(6), 5, 2);
            due("five of six: latest", six.plan(0), 5);
            int[] quarters = {0, 1, 3, 4, 5, 2};
            for (int c = 0; c < 6; c++) due("five of six: " + c, six.plan(10 + c), quarters[c]);
            SmokesApart touching = Bounds.lit(ALIKE.repeat(3), 0, 0, 1, 0);
            due("lit ones that touch don't hinder", touching.plan(0), 1);
        });
        Bounds.holds(0, "the SOONEST has the least latest QUARTER of these, of like ones the least sum of them, "
            + "of like ones the first by CHIMNEYS' QUARTERS.", () -> {
            planned("chimney 5 0 6 6 6 6 to 4;chimney 5 4 2 from 7 to 8;", 7, 11, 4, 7);
            planned("chimney 5 0 2 2 2;" + ALIKE + ALIKE + "chimney 9 0 2 from 4;", 4, 7, 2, 0, 1, 4);
            planned(ALIKE + ALIKE, 1, 1, 0, 1);
            planned("chimney 5 0 2 to 3;chimney 5 0 2 from 2;chimney 5 0 2 from 2;", 3, 5, 0, 2, 3);
        });
        Bounds.holds(0, "the fewest CHIMNEYS that aren't lit for which alone there is none, of like ones the least as bits.", () -> {
            String a = "chimney 5 0 2 to 0;", b = "chimney 9 0 2 to 0;";
            due("a pair", Check.town(a + a).shut(), 3);
            due("the first pair of three", Check.town(a + a + a).shut(), 3);
            due("of two pairs the lesser", Check.town(a + b + b + a).shut(), 6);
            due("fewer before less", Check.town("chimney 9 0 2 to 1;".repeat(3) + a + a).shut(), 24);
        });
        Bounds.holds(0, "each in a QUARTER FREE for it and not above that one, so that no two TOUCH; of like ones the least set as bits.", () -> {
            SmokesApart it = Check.town("chimney 5 0 2 from 7 to 8;".repeat(3));
            int[][] most = {{6, 0, 0}, {7, 1, 1}, {8, 2, 3}, {9, 2, 3}, {23, 2, 3}};
            for (int[] m : most) {
                due("by " + m[0], it.most(m[0], 0), m[1]);
                due("by " + m[0] + ": which", it.most(m[0], 1), m[2]);
            }
        });
        Bounds.holds(0, "PRICE of a CHIMNEY that isn't lit in a QUARTER: by how much more all would pay together, if it were lit then.", () -> {
            SmokesApart it = Bounds.lit(ALIKE.repeat(3) + "fine 99;", 0, 4, 1, 4);
            due("both pay, or it does", it.price(2, 4), 198);
            due("nobody", it.price(2, 5), 0);
            due("what they pay already aside", it.count(6), 99);
        });
    }

    // ---- promises

    private static void promise20() {
        Bounds.holds(20, "FREE QUARTERS of a CHIMNEY, as bits.", () -> {
            due("all", Check.town(ALIKE).free(0), 0xffffff);
            due("the first", Check.town("chimney 5 0 2 to 0;").free(0), 1);
            due("the last", Check.town("chimney 5 0 2 from 23;").free(0), 1 << 23);
            due("none", Bounds.lit(ALIKE + "chimney 5 0 2 from 23;", 0, 23).free(1), 0);
            Bounds.asks("nothing changes", Bounds.lively(), 0x3fc, it -> it.free(2));
        });
        Bounds.holds(20, "-2.", () -> {
            for (int c : new int[] {-1, 4, LEAST, GREATEST}) Bounds.refused("chimney " + c, Bounds.lively(), -2, it -> it.free(c));
            due("the last", Bounds.lively().get().free(3), 0x7ffffe);
        });
    }

    private static void promise21() {
        Bounds.holds(21, "what 0: its latest QUARTER (0 if all are lit), 1: the sum", () -> {
            planned("chimney 5 0 2 to 0;", 0, 0, 0);
            planned("chimney 5 0 2 from 23;", 23, 23, 23);
            planned("chimney 5 0 2 from 19;".repeat(5), 23, 105, 19, 20, 21, 22, 23);
            StringBuilder late = new StringBuilder();
            for (int c = 0; c < 5; c++) late.append("chimney ").append(8 * c).append(" 0 2 from 23;");
            planned(late.toString(), 23, 115, 23, 23, 23, 23, 23);
            SmokesApart all = Bounds.lit(ALIKE + ALIKE, 0, 23, 1, 23);
            due("all lit: latest", all.plan(0), 0);
            due("all lit: sum", all.plan(1), 0);
            due("no chimneys: latest", new SmokesApart().plan(0), 0);
            due("no chimneys: sum", new SmokesApart().plan(1), 0);
        });
        Bounds.holds(21, "10 + c: the QUARTER of CHIMNEY c (of lit ones theirs)", () -> {
            SmokesApart it = Bounds.lit(ALIKE.repeat(10), 0, 23, 1, 0, 2, 1, 3, 2, 9, 4);
            due("a sixth is lit", it.light(8, 23), 0);
            int[] quarters = {23, 0, 1, 2, 3, 5, 6, 7, 23, 4};
            for (int c = 0; c < 10; c++) due("chimney " + c, it.plan(10 + c), quarters[c]);
            due("no eleventh", it.plan(20), -2);
            Bounds.asks("nothing is lit by it", Bounds.lively(), 1, one -> one.plan(13));
        });
        Bounds.holds(21, "NONE: there is none; -2: what; -4: more than 5 aren't lit (all as numbers alone).", () -> {
            Supplier<SmokesApart> none = Bounds.busy("chimney 5 0 2 from 20;".repeat(5) + ALIKE, 5, 7);
            for (int what : new int[] {0, 1, 10, 14, 15}) Bounds.asks("none: " + what, none, NONE, it -> it.plan(what));
            for (int what : new int[] {-1, 2, 9, 14, 16, LEAST, GREATEST})
                Bounds.refused("what " + what, Bounds.lively(), -2, it -> it.plan(what));
            due("no such, and none", none.get().plan(16), -2);
            for (int what : new int[] {0, 1, 10, 16}) Bounds.refused("six: " + what, crowd(), -4, it -> it.plan(what));
            for (int what : new int[] {-1, 2, 9, 17}) Bounds.refused("six, and no such: " + what, crowd(), -2, it -> it.plan(what));
            due("ten", Check.town(ALIKE.repeat(10)).plan(0), -4);
            due("no chimney 0", new SmokesApart().plan(10), -2);
        });
    }

    private static void promise22() {
        Bounds.holds(22, "How many PLANS there are, counted up to 100000 (that many: or more).", () -> {
            due("no chimneys", new SmokesApart().plans(), 1);
            due("all lit", Bounds.lit(ALIKE + ALIKE, 0, 0, 1, 0).plans(), 1);
            due("none", Check.town("chimney 5 0 2 to 0;".repeat(2)).plans(), 0);
            due("one", Check.town("chimney 5 0 2 to 0;").plans(), 1);
            due("24", Check.town(ALIKE).plans(), 24);
            due("24 times 23", Check.town(ALIKE + ALIKE).plans(), 24 * 23);
            due("41 times 271 times 9", Check.town("chimney 1 0 2 to 1;chimney 1 0 2 from 1 to 21;chimney 9 0 2 to 14;"
                + "chimney 9 0 2 from 1 to 19;chimney 20 0 2 to 8;").plans(), 99999);
            due("20 times 20 times 10 times 5 times 5", Check.town("chimney 1 0 2 to 19;chimney 5 0 2 to 19;chimney 9 0 2 to 9;"
                + "chimney 20 0 2 to 4;chimney 30 0 2 to 4;").plans(), 100000);
            due("59 times 113 times 15", Check.town("chimney 1 0 2 to 2;chimney 1 0 2 from 2 to 21;chimney 9 0 2 to 5;"
                + "chimney 9 0 2 from 5 to 23;chimney 20 0 2 to 14;").plans(), 100000);
            due("the most that can be", Check.town("chimney 1 0 1;".repeat(5)).plans(), 100000);
            Bounds.asks("nothing changes", Bounds.lively(), 8 * 22, SmokesApart::plans);
        });
        Bounds.holds(22, "-4: more than 5 aren't lit.", () -> {
            Bounds.refused("six", crowd(), -4, SmokesApart::plans);
            due("ten", Check.town(ALIKE.repeat(10)).plans(), -4);
            due("five", Check.town("chimney 5 0 2 from 19;".repeat(5)).plans(), 120);
            due("five of six", Bounds.lit("chimney 5 0 2 from 18;".repeat(6), 3, 18).plans(), 120);
        });
    }

    private static void promise23() {
        Bounds.holds(23, "SHUT, as bits (0: there is a PLAN).", () -> {
            due("no chimneys", new SmokesApart().shut(), 0);
            due("a plan", Check.town("chimney 5 0 2 to 4;".repeat(5)).shut(), 0);
            due("all five", Check.town("chimney 5 0 2 to 3;".repeat(5)).shut(), 31);
            due("four of five", Check.town("chimney 5 0 2 to 2;".repeat(5)).shut(), 15);
            due("one", Bounds.lit(ALIKE + "chimney 5 0 2 from 23;", 0, 23).shut(), 2);
            SmokesApart ten = Bounds.lit("chimney 9 0 2;".repeat(5) + "chimney 5 0 2 to 3;".repeat(5), 0, 0, 1, 0, 2, 0, 3, 0, 4, 0);
            due("the last five of ten", ten.shut(), 31 << 5);
            due("all lit, whatever touches", Bounds.lit(ALIKE + ALIKE, 0, 0, 1, 0).shut(), 0);
            Bounds.asks("nothing changes", Bounds.busy("chimney 5 0 2 to 0;".repeat(2)), 3, SmokesApart::shut);
        });
        Bounds.holds(23, "-4: more than 5 aren't lit.", () -> {
            Bounds.refused("six", crowd(), -4, SmokesApart::shut);
            due("ten", Check.town(ALIKE.repeat(10)).shut(), -4);
            due("five of six", Bounds.lit("chimney 5 0 2 to 3;".repeat(6), 0, 0).shut(), 30);
        });
    }

    private static void promise24() {
        Bounds.holds(24, "MOST, what 0: how many, 1: which CHIMNEYS (bits).", () -> {
            SmokesApart it = Check.town(ALIKE.repeat(5));
            for (int q : new int[] {0, 1, 2, 3, 4, 5, 23}) {
                int most = Math.min(q + 1, 5);
                due("by " + q, it.most(q, 0), most);
                due("by " + q + ": which", it.most(q, 1), (1 << most) - 1);
            }
            due("no chimneys", new SmokesApart().most(0, 0), 0);
            due("no chimneys: which", new SmokesApart().most(23, 1), 0);
            SmokesApart lit = Bounds.lit(ALIKE.repeat(10), 0, 0, 1, 1, 2, 2, 3, 3, 4, 4);
            due("none is free by 4", lit.most(4, 0), 0);
            due("one is by 5", lit.most(5, 1), 1 << 5);
            due("all are by 9", lit.most(9, 1), 31 << 5);
            Bounds.asks("nothing changes", Bounds.lively(), 12, one -> one.most(2, 1));
        });
        Bounds.holds(24, "-2: what; -3: the QUARTER (0 to 23); -4: more than 5 aren't lit.", () -> {
            for (int what : new int[] {-1, 2, LEAST, GREATEST}) {
                Bounds.refused("what " + what, Bounds.lively(), -2, it -> it.most(5, what));
                Bounds.refused("what " + what + ", no quarter", Bounds.lively(), -2, it -> it.most(24, what));
                Bounds.refused("what " + what + ", six", crowd(), -2, it -> it.most(5, what));
            }
            for (int q : new int[] {-1, 24, LEAST, GREATEST}) {
                Bounds.refused("quarter " + q, Bounds.lively(), -3, it -> it.most(q, 0));
                Bounds.refused("quarter " + q + ", six", crowd(), -3, it -> it.most(q, 1));
            }
            for (int q : new int[] {0, 23}) {
                Bounds.refused("six, by " + q, crowd(), -4, it -> it.most(q, 0));
                due("two, by " + q, Bounds.lively().get().most(q, 0), q == 0 ? 0 : 2);
            }
        });
    }

    private static void promise25() {
        Bounds.holds(25, "PRICE.", () -> {
            SmokesApart it = Check.town(LONG.repeat(10) + "thick 1;fine 99;");
            for (int c = 0; c < 9; c++) {
                due("so many lit: " + c, it.price(9, 0), c * 14 * 99);
                it.light(c, 0);
            }
            due("the most", it.price(9, 0), 9 * 14 * 99);
            due("it isn't lit by that", it.chimney(9, 5), NONE);
            due("nor is a fine", Check.town(ALIKE).price(0, 23), 0);
            due("fine 0", Bounds.lit(ALIKE + ALIKE + "fine 0;", 0, 0).price(1, 0), 0);
            Bounds.asks("nothing changes", Bounds.busy(Bounds.LIVELY, 0, 3), 14, one -> one.price(1, 4));
        });
        Bounds.holds(25, "-2; -5: it is lit; NONE: the QUARTER isn't from its from to its to (all as numbers alone).", () -> {
            for (int c : new int[] {-1, 4, LEAST, GREATEST})
                for (int q : new int[] {5, -1, 24}) Bounds.refused("chimney " + c + " in " + q, Bounds.lively(), -2, it -> it.price(c, q));
            for (int q : new int[] {3, 4, -1, 24}) Bounds.refused("lit 0 in " + q, Bounds.lively(), -5, it -> it.price(0, q));
            for (int q : new int[] {1, 10, -1, 24, LEAST, GREATEST}) Bounds.asks("2 in " + q, Bounds.lively(), NONE, it -> it.price(2, q));
            for (int q : new int[] {2, 9}) Bounds.asks("2 in " + q, Bounds.lively(), 0, it -> it.price(2, q));
            due("below 0", Check.town(ALIKE).price(0, -1), NONE);
            due("above 23", Check.town(ALIKE).price(0, 24), NONE);
        });
    }

    private static void promise26() {
        Bounds.holds(26, "The QUARTER of its from to its to with the least PRICE, the first.", () -> {
            due("nobody lit", Check.town(ALIKE).cheapest(0), 0);
            due("nobody lit, from 23", Check.town("chimney 5 0 2 from 23;").cheapest(0), 23);
            due("not its from", Bounds.lit(ALIKE + "chimney 5 0 2 from 22;", 0, 22).cheapest(1), 23);
            due("all but its to", Bounds.lit(ALIKE.repeat(3) + "chimney 5 0 2 from 3 to 5;", 0, 3, 1, 4).cheapest(3), 5);
            due("of like ones the first", Bounds.lit(ALIKE + "chimney 5 0 2 from 3 to 5;", 0, 3).cheapest(1), 4);
            due("dear everywhere", Bounds.lit(ALIKE.repeat(3) + "chimney 5 0 2 from 3 to 4;", 0, 3, 1, 3, 2, 4).cheapest(3), 4);
            due("dear alike", Bounds.lit(ALIKE.repeat(2) + "chimney 5 0 2 from 3 to 4;", 0, 3, 1, 4).cheapest(2), 3);
            Bounds.asks("nothing changes", Bounds.lively(), 2, it -> it.cheapest(2));
        });
        Bounds.holds(26, "-2; -5: it is lit.", () -> {
            for (int c : new int[] {-1, 4, LEAST, GREATEST}) Bounds.refused("chimney " + c, Bounds.lively(), -2, it -> it.cheapest(c));
            for (int c : new int[] {0, 1}) Bounds.refused("lit " + c, Bounds.lively(), -5, it -> it.cheapest(c));
            due("the last", Bounds.lively().get().cheapest(3), 1);
        });
    }

    /** One between its like at its place and another one, all lit at once: it touches what is less than 6 above or below. */
    private static int higherBelow(int height) {
        return Bounds.lit(LONG + LONG + "chimney 5 " + height + " 9 9 9 9 9 9;thick 1;", 0, 5, 1, 5, 2, 5).higher(0);
    }

    private static void promise27() {
        Bounds.holds(27, "HIGHER. NONE: not by 12", () -> {
            due("alone", Bounds.lit(ALIKE, 0, 0).higher(0), 0);
            due("touches none", Bounds.lit(ALIKE + ALIKE, 0, 0, 1, 1).higher(0), 0);
            due("by 1", Bounds.lit(ALIKE + ALIKE, 0, 0, 1, 0).higher(0), 1);
            due("alike, but not lit", Bounds.lit(LONG + LONG, 1, 0).higher(1), 0);
            for (int height = 0; height <= 6; height++) due("below " + height, higherBelow(height), 6 + height);
            for (int height = 7; height <= 11; height++) due("below " + height, higherBelow(height), NONE);
            due("below 12", higherBelow(12), 6);
            String high = "chimney 5 12 9 9 9 9 9 9;".repeat(2) + "thick 1;";
            due("from the greatest height", Bounds.lit(high, 0, 0, 1, 0).higher(1), 6);
            due("lit later", Bounds.lit(high, 0, 0, 1, 5).higher(1), 9);
            Bounds.asks("nothing changes", Bounds.lively(), 1, it -> it.higher(1));
            Bounds.asks("nothing changes by NONE", Bounds.busy(LONG + LONG + "chimney 5 7 9 9 9 9 9 9;thick 1;", 0, 5, 1, 5, 2, 5), NONE,
                it -> it.higher(0));
        });
        Bounds.holds(27, "-2; -5: it isn't lit.", () -> {
            for (int c : new int[] {-1, 4, LEAST, GREATEST}) Bounds.refused("chimney " + c, Bounds.lively(), -2, it -> it.higher(c));
            for (int c : new int[] {2, 3}) Bounds.refused("not lit " + c, Bounds.lively(), -5, it -> it.higher(c));
        });
        Bounds.holds(0, "HIGHER: the least number (0 to 12) by which a lit CHIMNEY must be higher so that it TOUCHES none.", () -> {
            due("12", higherBelow(6), 12);
            due("13 would be needed", higherBelow(7), NONE);
            due("others that touch don't count", Bounds.lit(ALIKE + ALIKE + "chimney 9 0 2;", 0, 0, 1, 0, 2, 0).higher(2), 0);
        });
    }

    private static void promise28() {
        Bounds.holds(28, "The least thick (1 to 10) by which none of those that are lit TOUCH.", () -> {
            due("no chimneys", new SmokesApart().thickness(), 1);
            due("none lit", Check.town(ALIKE + ALIKE).thickness(), 1);
            due("one lit", Bounds.lit(ALIKE + ALIKE, 0, 0).thickness(), 1);
            for (int smoke = 1; smoke <= 9; smoke++)
                for (int thick : new int[] {1, 9}) {
                    String text = "chimney 5 0 " + smoke + ";chimney 5 0 9;chimney 5 0 9;thick " + thick + ";";
                    SmokesApart it = Bounds.lit(text, 0, 4, 1, 4);
                    due(smoke + " thick, told " + thick, it.thickness(), smoke + 1);
                    due("and told still", it.count(4), thick);
                    it.light(2, 4);
                    due("two that are 9 thick", it.thickness(), 10);
                }
            due("alike, but not lit", Bounds.lit(LONG + LONG, 0, 0).thickness(), 1);
            due("alike, but not lit, the other", Bounds.lit(LONG + LONG, 1, 0).thickness(), 1);
            due("smoke that is nowhere together", Bounds.lit("chimney 5 0 9;chimney 6 0 9;", 0, 0, 1, 0).thickness(), 1);
            Bounds.asks("nothing changes", Bounds.lively(), 4, SmokesApart::thickness);
        });
    }

    // ---- sheets

    private static SmokesApart sheeted(String text, int sort, long... row) {
        SmokesApart it = Check.town(text);
        Check.row(it, 0, sort, row);
        return it;
    }

    private static Supplier<SmokesApart> busySheets(String text, int sort, long... row) {
        Supplier<SmokesApart> made = Bounds.busy(text);
        return () -> {
            SmokesApart it = made.get();
            Check.row(it, 1, sort, row);
            return it;
        };
    }

    private static void sheetsOfTheTerms() {
        Bounds.holds(0, "SHEETS in a ROW: X and SOOT, one behind the other", () -> {
            due("nothing told: all days", sheeted(SOOTY, 0).sheets(0), 3 * 25 * 2);
            due("the first is lit", sheeted(SOOTY, 1, 5, 6).sheets(0), 2 * 25 * 2);
            due("one soot more", sheeted(SOOTY, 1, 5, 7).sheets(0), 0);
            due("one soot less", sheeted(SOOTY, 1, 5, 5).sheets(0), 0);
            due("the first isn't", sheeted(SOOTY, 1, 5, 0).sheets(0), 25 * 2);
            due("all are", sheeted(SOOTY, 1, 5, 6, 6, 3, 20, 1).sheets(0), 2 * 24);
            due("the last told counts", sheeted(SOOTY, 1, 5, 6, 6, 3, 20, 2).sheets(0), 0);
        });
        Bounds.holds(0, "DAYS FIT, if each lights each CHIMNEY in a QUARTER of its from to its to, or not, so that all SOOT told is so", () -> {
            SmokesApart it = sheeted(SOOTY, 1, 5, 6, 6, 0, 20, 1);
            due("two days", it.sheets(0), 2);
            due("at its from", it.sheet(0, 0, 0), 1);
            due("at its to", it.sheet(0, 1, 0), 2);
            due("not lit", it.sheet(0, 0, 1), NONE);
            due("in the last", it.sheet(0, 1, 2), 23);
            it.light(0, 2);
            due("what is lit doesn't count", it.sheets(0), 2);
        });
        Bounds.holds(0, "at most 3 CHIMNEYS", () -> {
            due("none", sheeted("", 0).sheets(0), 1);
            due("one", sheeted("chimney 5 0 1;", 0).sheets(0), 25);
            due("three", sheeted(THREE, 0).sheets(0), 15625);
            due("four", sheeted(THREE + "chimney 5 0 1;", 0).sheets(0), -4);
        });
        Bounds.holds(0, "they stand in order by CHIMNEYS' QUARTERS (not lit first)", () -> {
            SmokesApart it = sheeted(THREE, 0);
            int[][] days = {{0, NONE, NONE, NONE}, {1, NONE, NONE, 0}, {24, NONE, NONE, 23}, {25, NONE, 0, NONE}, {624, NONE, 23, 23},
                {625, 0, NONE, NONE}, {15624, 23, 23, 23}};
            for (int[] d : days) for (int c = 0; c < 3; c++) due("day " + d[0] + " chimney " + c, it.sheet(0, d[0], c), d[1 + c]);
        });
    }

    private static void promise29() {
        Bounds.holds(29, "How many DAYS FIT SHEETS in a ROW.", () -> {
            due("none", sheeted(THREE, 0, 5, 4).sheets(0), 0);
            due("one", sheeted(THREE, 0, 5, 0).sheets(0), 1);
            due("all three lit", sheeted(THREE, 0, 5, 3).sheets(0), 24 * 24 * 24);
            due("all", sheeted(THREE, 0, 6, 0).sheets(0), 15625);
            long[] full = new long[40];
            for (int i = 0; i < 20; i++) full[2 * i] = 39 - i;
            due("a full row", sheeted(THREE, 0, full).sheets(0), 15625);
            full[0] = 5;
            full[38] = 5;
            full[1] = 3;
            full[39] = 3;
            due("a full row that tells 5 twice", sheeted(THREE, 0, full).sheets(0), 24 * 24 * 24);
            full[39] = 2;
            due("twice, but not alike", sheeted(THREE, 0, full).sheets(0), 0);
            due("far more soot than there can be", sheeted(THREE, 3, 5, Long.MAX_VALUE).sheets(0), 0);
            due("it doesn't wrap around", sheeted(THREE, 3, 5, 3 + (1L << 32)).sheets(0), 0);
            due("but in a row of 32 bits", sheeted(THREE, 2, 5, 3 + (1L << 32)).sheets(0), 24 * 24 * 24);
            Bounds.asks("nothing changes", busySheets(THREE, 0, 5, 1), 72, it -> it.sheets(1));
        });
        Bounds.holds(29, "-2: the ROW; -6; -4: more than 3 CHIMNEYS; -3: an X that isn't 0 to 39, a SOOT below 0, not as many as X.", () -> {
            refusedSheets((it, row) -> it.sheets(row));
            for (long x : new long[] {0, 39}) due("x " + x, sheeted(THREE, 1, x, 0).sheets(0), 15625);
            due("x 295 of 8 bits is 39", sheeted(THREE, 0, 256 + 39, 0).sheets(0), 15625);
            due("soot 200 of 8 bits is below 0", sheeted(THREE, 0, 5, 200).sheets(0), -3);
            due("soot 127 of 8 bits", sheeted(THREE, 0, 5, 127).sheets(0), 0);
            due("soot 128 of 8 bits", sheeted(THREE, 0, 5, 128).sheets(0), -3);
        });
    }

    /** A call about sheets in a row. */
    private interface OfSheets {
        int ask(SmokesApart it, int row);
    }

    private static void refusedSheets(OfSheets call) {
        String four = THREE + "chimney 5 0 1;";
        for (int row : new int[] {-1, 4, LEAST, GREATEST}) {
            Bounds.refused("row " + row, Bounds.busy(THREE), -2, it -> call.ask(it, row));
            Bounds.refused("row " + row + ", four", Bounds.busy(four), -2, it -> call.ask(it, row));
        }
        Bounds.refused("missing", Bounds.busy(THREE), -6, it -> call.ask(it, 2));
        Bounds.refused("missing, four", Bounds.busy(four), -6, it -> call.ask(it, 2));
        Bounds.refused("four", Bounds.busy(four), -4, it -> call.ask(it, 1));
        Bounds.refused("four, and no such x", busySheets(four, 3, 40, 0), -4, it -> call.ask(it, 1));
        Bounds.refused("four, and an empty row", Bounds.busy(four), -4, it -> call.ask(it, 3));
        long[][] cannot = {{-1, 0}, {40, 0}, {Long.MIN_VALUE, 0}, {Long.MAX_VALUE, 0}, {5 + (1L << 32), 0}, {5, -1}, {5, Long.MIN_VALUE}, {5},
            {5, 0, 5}, {5, 0, 40, 0}, {5, 0, 5, -1}, new long[39]};
        for (long[] row : cannot) Bounds.refused("a row of " + row.length, busySheets(THREE, 3, row), -3, it -> call.ask(it, 1));
    }

    private static void promise30() {
        Bounds.holds(30, "In which QUARTER CHIMNEY c is lit on the k-th DAY that FITS (NONE: not).", () -> {
            SmokesApart it = sheeted(THREE, 0, 5, 1);
            int[][] days = {{0, NONE, NONE, 0}, {23, NONE, NONE, 23}, {24, NONE, 0, NONE}, {47, NONE, 23, NONE}, {48, 0, NONE, NONE},
                {71, 23, NONE, NONE}};
            for (int[] d : days) for (int c = 0; c < 3; c++) due("day " + d[0] + " chimney " + c, it.sheet(0, d[0], c), d[1 + c]);
            Bounds.asks("nothing changes", busySheets(THREE, 0, 5, 1), 23, one -> one.sheet(1, 71, 0));
        });
        Bounds.holds(30, "-2: the ROW, CHIMNEY; -6; -4; -3; -5: not so many.", () -> {
            for (int k : new int[] {0, -1, 99999}) refusedSheets((it, row) -> it.sheet(row, k, 0));
            for (int c : new int[] {-1, 3, LEAST, GREATEST})
                for (int row : new int[] {1, 2}) Bounds.refused("chimney " + c, Bounds.busy(THREE), -2, it -> it.sheet(row, 0, c));
            Bounds.refused("chimney 4 of four", Bounds.busy(THREE + "chimney 5 0 1;"), -2, it -> it.sheet(1, 0, 4));
            Bounds.refused("chimney 3 of four", Bounds.busy(THREE + "chimney 5 0 1;"), -4, it -> it.sheet(1, 0, 3));
            for (int k : new int[] {-1, 72, LEAST, GREATEST})
                Bounds.refused("day " + k, busySheets(THREE, 0, 5, 1), -5, it -> it.sheet(1, k, 2));
            Bounds.refused("none fit", busySheets(THREE, 0, 5, 4), -5, it -> it.sheet(1, 0, 2));
            Bounds.refused("all, and one more", busySheets(THREE, 0), -5, it -> it.sheet(1, 15625, 2));
            Bounds.refused("no chimneys", Bounds.busy(""), -2, it -> it.sheet(3, 0, 0));
        });
    }

    private static void promise31() {
        Bounds.holds(31, "CHIMNEYS that are lit on all DAYS that FIT, as bits (0: none FIT).", () -> {
            int[] sure = {0, 0, 0, 7, 0};
            for (int soot = 0; soot < 5; soot++) due("soot " + soot, sheeted(THREE, 0, 5, soot).sure(0), sure[soot]);
            due("nothing told", sheeted(THREE, 0).sure(0), 0);
            due("the first", sheeted(SOOTY, 0, 5, 6).sure(0), 1);
            due("the last", sheeted(SOOTY, 0, 20, 1).sure(0), 4);
            due("the second, and not the first", sheeted(SOOTY, 0, 5, 0, 6, 3).sure(0), 2);
            due("no chimneys", sheeted("", 0).sure(0), 0);
            due("one alone", sheeted("chimney 5 0 1;", 0, 5, 1).sure(0), 1);
            Bounds.asks("nothing changes", busySheets(THREE, 0, 5, 3), 7, it -> it.sure(1));
        });
        Bounds.holds(31, "-2; -6; -4; -3.", () -> refusedSheets((it, row) -> it.sure(row)));
    }
}
