/** Promise by promise: ordinary inputs, the edges that the document names, wrong inputs. */
public final class PromisesTest {
    private static final int NONE = SmokesApart.NONE;
    private static final int LEAST = Integer.MIN_VALUE;
    private static final int GREATEST = Integer.MAX_VALUE;

    /** Chimneys 0 and 1 touch, if 1 is lit one or two quarters behind 0; 2 is far away. */
    private static final String LEANING =
        "chimney 5 0 4 4;chimney 6 1 3;chimney 20 0 1 from 2 to 9;wind 0 4 3;layer 2;fine 7;";
    /** Two at one place may not be lit together; the third takes two quarters. */
    private static final String CLOSE = "chimney 5 0 2;chimney 5 0 2;chimney 5 0 2 2;fine 3;";
    /** 1, lit in 1 or 2, touches 0, lit in 0, only by a low wind of 4 in its own quarter. */
    private static final String GUSTY = "chimney 10 0 9 9;chimney 11 1 9 from 1 to 2;";

    private PromisesTest() {
    }

    private static void due(String call, long got, long want) {
        Check.due(call, got, want);
    }

    public static void main(String[] args) {
        newObject();
        feed();
        town();
        fault();
        faultsOfTokens();
        faultsOfLines();
        faultsOfTooMany();
        chimney();
        wind();
        lightAndOut();
        judge();
        judgeNumbers();
        perform();
        smoke();
        puffs();
        puff();
        ways();
        touches();
        pair();
        pays();
        soot();
        free();
        plan();
        planOrder();
        plans();
        shut();
        most();
        tooManyUnlit();
        price();
        higher();
        thickness();
        sheets();
        sheet();
        sure();
        gusts();
        steady();
        best();
        sky();
        rows();
        copy();
        images();
        count();
        Check.end();
    }

    // ---- promise 1

    private static void newObject() {
        SmokesApart it = new SmokesApart();
        int[] counts = {0, 0, 0, 6, 2, 5, 0, 0, 0};
        for (int i = 0; i < counts.length; i++) due("new: count " + i, it.count(i), counts[i]);
        due("new: fault 0", it.fault(0), 0);
        due("new: fault 1", it.fault(1), NONE);
        for (int q = 0; q < 48; q++) due("new: wind", it.wind(q, q % 2 == 0), 3);
        due("new: chimney", it.chimney(0, 0), -2);
        for (int i = 0; i < 4; i++) due("new: a row", it.write(i, 0, 1), -6);
        for (int i = 0; i < 2; i++) due("new: an image", it.restore(i), -5);
        due("NONE", NONE, -1);
    }

    // ---- promise 2

    private static void feed() {
        SmokesApart it = new SmokesApart();
        for (int n = 1; n <= 45; n++) due("feed", it.feed(0, 0, 0, 0, 0), 20 * n);
        due("feed beyond 900", it.feed(0, 0, 0, 0, 0), -5);
        due("the tape is full", it.count(7), 900);
        due("zeros are no tokens", it.town(900), -31);
        due("the tape is empty", it.count(7), 0);
        due("feed again", it.feed(0x66696e65, 0x20393b66, 0x696e6520, 0x383b2020, 0x20202020), 20);
        due("highest byte first", it.town(20), 2);
        due("fine", it.count(5), 8);
    }

    // ---- promise 3

    private static void town() {
        SmokesApart it = new SmokesApart();
        due("nothing on the tape", it.town(1), -3);
        due("an empty text", it.town(0), 0);
        Check.feed(it, "fine 9;fine 8;");
        due("n below 0", it.town(-1), -3);
        due("n least", it.town(LEAST), -3);
        due("n above", it.town(21), -3);
        due("n greatest", it.town(GREATEST), -3);
        due("the tape stays", it.count(7), 20);
        due("the first 7 bytes", it.town(7), 1);
        due("fine 9", it.count(5), 9);
        due("the rest is gone", it.count(7), 0);
        Check.tell(it, LEANING);
        it.light(0, 3);
        due("a fault", Check.tell(it, "thick 4;chimney 1 1 1;soot 1;"), -32);
        due("all stays: chimneys", it.count(0), 3);
        due("all stays: lit", it.chimney(0, 5), 3);
        due("all stays: thick", it.count(4), 2);
        due("but for the tape", it.count(7), 0);
        due("another town", Check.tell(it, "chimney 5 0 4 4; thick 9 ;thick 3\n;"), 3);
        due("none is lit", it.count(1), 0);
        due("none is lit, as told", it.chimney(0, 5), NONE);
        due("later ones strike", it.count(4), 3);
        due("what isn't told is as at first: layer", it.count(3), 6);
        due("what isn't told is as at first: fine", it.count(5), 5);
        due("what isn't told is as at first: wind", it.wind(0, false), 3);
        due("the whole tape", Check.tell(it, "fine 1;".repeat(128) + "    "), 128);
    }

    // ---- promise 4

    private static void fault() {
        SmokesApart it = new SmokesApart();
        Check.tell(it, "fine 1; fine ;");
        due("fault 0", it.fault(0), 2);
        due("fault 1", it.fault(1), 13);
        due("fault 2", it.fault(2), NONE);
        due("fault -1", it.fault(-1), NONE);
        it.town(5);
        due("one that isn't read changes nothing", it.fault(0), 2);
        due("nor its place", it.fault(1), 13);
        Check.tell(it, "fine 1;");
        due("no fault", it.fault(0), 0);
        due("no place", it.fault(1), NONE);
    }

    private static void faulty(String text, int kind, int place) {
        SmokesApart it = new SmokesApart();
        due("town of " + text, Check.tell(it, text), -30 - kind);
        due("fault of " + text, it.fault(0), kind);
        due("place in " + text, it.fault(1), place);
        due("no town of " + text, it.count(8), 0);
    }

    private static void good(String text, int lines) {
        due("town of " + text, Check.tell(new SmokesApart(), text), lines);
    }

    private static void faultsOfTokens() {
        faulty("Fine 1;", 1, 0);
        faulty("fine\t1;", 1, 4);
        faulty("fine 1\r;", 1, 6);
        faulty("fine -1;", 1, 5);
        faulty("fine \u00e9;", 1, 5);
        faulty("fine \u00bb;", 1, 5);
        faulty("fIne 1;", 2, 0);
        faulty("fine 1000;", 1, 5);
        faulty("fine 0001;", 1, 5);
        faulty("fine 1 99999999999;", 1, 7);
        faulty("1000;", 1, 0);
        faulty("zine 1;", 2, 0);
        faulty("fine 1z;", 2, 6);
        faulty("fine 1`;", 1, 6);
        faulty("fine 1{;", 1, 6);
        faulty("fine 1/;", 1, 6);
        faulty("fine 1:;", 1, 6);
        faulty("wind 1 1000", 1, 7);
        good("fine 001;", 1);
        good("\n fine\n1 ;\n\n", 1);
        good("fine1;chimney1 1 1from1to2;", 2);
        good("   ", 0);
        good("\n", 0);
    }

    private static void faultsOfLines() {
        faulty(";", 2, 0);
        faulty(" fine 1;;", 2, 8);
        faulty("1;", 2, 0);
        faulty("fine;", 2, 4);
        faulty("fine 1 1;", 2, 7);
        faulty("fine", 2, 4);
        faulty("fine  ", 2, 6);
        faulty("fine 1 ", 2, 7);
        faulty("fines 1;", 2, 0);
        faulty("fin 1;", 2, 0);
        faulty("from 1;", 2, 0);
        faulty("fine 100;", 3, 5);
        faulty("thick 0;", 3, 6);
        faulty("thick 10;", 3, 6);
        faulty("layer 21;", 3, 6);
        faulty("wind 48 3 3;", 3, 5);
        faulty("wind 47 7 3;", 3, 8);
        faulty("wind 47 6 7;", 3, 10);
        faulty("wind 1 3;", 2, 8);
        faulty("wind 1 3 3 3;", 2, 11);
        faulty("chimney 40 0 1;", 3, 8);
        faulty("chimney 39 13 1;", 3, 11);
        faulty("chimney 39 12 0;", 3, 14);
        faulty("chimney 39 12;", 2, 13);
        faulty("chimney 39 12 from 1;", 2, 14);
        faulty("chimney 1 1 1 from;", 2, 18);
        faulty("chimney 1 1 1 from 24;", 3, 19);
        faulty("chimney 1 1 1 to 24;", 3, 17);
        faulty("chimney 1 1 1 from 3 to 2;", 3, 24);
        faulty("chimney 1 1 1 to 2 from 1;", 2, 19);
        faulty("chimney 1 1 1 from 1 from 1;", 2, 21);
        faulty("chimney 1 1 1 from 1 2;", 2, 21);
        faulty("chimney 1 1 1 to 1 2;", 2, 19);
        faulty("chimney 1 1 1 10;", 3, 14);
        faulty("chimney 99 99 1 A;", 3, 8);
        good("chimney 39 12 9 from 23 to 23;wind 47 6 6;layer 20;thick 9;fine 99;", 5);
        good("chimney 0 0 1 from 0 to 0;wind 0 0 0;layer 0;thick 1;fine 0;", 5);
    }

    private static void faultsOfTooMany() {
        String ten = "chimney 1 1 1;".repeat(10);
        good(ten, 10);
        faulty(ten + "chimney 99;", 4, 140);
        faulty(ten + "fine 1;chimney", 4, 147);
        faulty(ten + "chimneys", 2, 140);
        String twelve = "wind 1 1 1;".repeat(12);
        good(twelve, 12);
        faulty(twelve + "wind 99", 4, 132);
        good("chimney 1 1 1 2 3 4 5 6;", 1);
        faulty("chimney 1 1 1 2 3 4 5 6 7;", 4, 24);
        faulty("chimney 1 1 1 2 3 4 5 6 0;", 3, 24);
        faulty("chimney 1 1 1 2 3 4 5 6 7777;", 1, 24);
    }

    // ---- promise 5

    private static void chimney() {
        SmokesApart it = Check.town("chimney 39 12 1 2 3 4 5 6 from 4 to 9;chimney 0 0 9;");
        int[] first = {39, 12, 4, 9, 6, NONE};
        int[] second = {0, 0, 0, 23, 1, NONE};
        for (int i = 0; i < 6; i++) {
            due("chimney 0 " + i, it.chimney(0, i), first[i]);
            due("chimney 1 " + i, it.chimney(1, i), second[i]);
            due("smoke " + i, it.chimney(0, 10 + i), i + 1);
        }
        it.light(0, 5);
        due("lit", it.chimney(0, 5), 5);
        due("no 7th smoke", it.chimney(0, 16), -7);
        due("no 2nd smoke", it.chimney(1, 11), -7);
        due("far more", it.chimney(1, GREATEST), -7);
        for (int i = 6; i < 10; i++) due("what " + i, it.chimney(0, i), -2);
        due("what -1", it.chimney(0, -1), -2);
        due("what least", it.chimney(0, LEAST), -2);
        for (int c : new int[] {-1, 2, 10, LEAST, GREATEST}) {
            due("no chimney " + c, it.chimney(c, 0), -2);
            due("no chimney, no smoke " + c, it.chimney(c, 17), -2);
        }
    }

    // ---- promise 6

    private static void wind() {
        SmokesApart it = Check.town("wind 9 0 1;wind 5 2 6;wind 9 5 4;wind 47 1 0;");
        due("before all", it.wind(4, false), 3);
        due("before all, high", it.wind(0, true), 3);
        due("from 5 on", it.wind(5, false), 2);
        due("till 8, high", it.wind(8, true), 6);
        due("of like ones the later", it.wind(9, false), 5);
        due("of like ones the later, high", it.wind(46, true), 4);
        due("the last", it.wind(47, false), 1);
        due("the last, high", it.wind(47, true), 0);
        for (int q : new int[] {-1, 48, LEAST, GREATEST}) due("no quarter " + q, it.wind(q, false), -3);
    }

    // ---- promises 7 and 8

    private static void lightAndOut() {
        SmokesApart it = Check.town(LEANING);
        due("light", it.light(0, 3), 0);
        due("whatever touches", it.light(1, 4), 0);
        due("it is lit", it.light(0, 4), -5);
        due("it is lit, and no quarter", it.light(0, 99), -5);
        due("before from", it.light(2, 1), -3);
        due("behind to", it.light(2, 10), -3);
        due("least quarter", it.light(2, LEAST), -3);
        due("nothing came of it", it.count(1), 2);
        due("at from", it.light(2, 2), 0);
        due("out", it.out(2), 2);
        due("at to", it.light(2, 9), 0);
        for (int c : new int[] {-1, 3, LEAST, GREATEST}) {
            due("no chimney " + c, it.light(c, 99), -2);
            due("no chimney out " + c, it.out(c), -2);
        }
        due("out 0", it.out(0), 3);
        due("out 0 again", it.out(0), -5);
        due("is out", it.chimney(0, 5), NONE);
        due("others aren't", it.count(1), 2);
        due("23 is a quarter", it.light(0, 23), 0);
        due("24 is none", Check.town("chimney 1 1 1;").light(0, 24), -3);
    }

    // ---- promises 9 and 10

    private static void judged(SmokesApart it, int row, int place, int why, int lit) {
        due("place", it.judge(row, 0), place);
        due("why", it.judge(row, 1), why);
        due("lit then", it.judge(row, 2), lit);
    }

    private static void judge() {
        SmokesApart it = Check.town(LEANING);
        Check.lightings(it, 0, 0, 3, 1, 4);
        judged(it, 0, 1, 4, 1);
        due("as if", it.count(1), 0);
        Check.lightings(it, 1, 1, 4, 0, 3);
        judged(it, 1, 1, 4, 1);
        Check.lightings(it, 2, 0, 3, 1, 6, 2, 9);
        judged(it, 2, NONE, 0, 3);
        Check.lightings(it, 3, 0, 3, 2, 1, 1, 99);
        judged(it, 3, 1, 3, 1);
        it.light(0, 0);
        judged(it, 0, 0, 2, 1);
        due("as it was", it.chimney(0, 5), 0);
        it.numbers(0, 0, 0);
        judged(it, 0, NONE, 0, 1);
        due("no row", it.judge(4, 0), -2);
        due("no row -1", it.judge(-1, 0), -2);
        due("no what", it.judge(0, 3), -2);
        due("no what -1", it.judge(0, -1), -2);
        SmokesApart fresh = new SmokesApart();
        due("missing", fresh.judge(0, 0), -6);
        due("missing, and no what", fresh.judge(0, 3), -2);
    }

    private static void judgeNumbers() {
        SmokesApart it = Check.town(LEANING);
        long[] cannot = {-1, -32, 96, 24, 31, 32 + 24, 1000, Long.MIN_VALUE, Long.MAX_VALUE, 1L << 32, (1L << 37) + 3};
        for (long v : cannot) {
            Check.row(it, 0, 3, v);
            judged(it, 0, 0, 1, 0);
        }
        Check.row(it, 0, 3, 64 + 1);
        judged(it, 0, 0, 3, 0);
        Check.row(it, 0, 0, 64 + 2);
        judged(it, 0, NONE, 0, 1);
        it.light(2, 5);
        Check.row(it, 0, 0, 64 + 24);
        judged(it, 0, 0, 1, 1);
        Check.row(it, 0, 0, 64 + 1);
        judged(it, 0, 0, 2, 1);
    }

    private static void perform() {
        SmokesApart it = Check.town(LEANING);
        Check.lightings(it, 0, 0, 3, 2, 4, 1, 5, 1, 6);
        due("till one can't be", it.perform(0), 2);
        due("lit", it.count(1), 2);
        due("which", it.chimney(2, 5), 4);
        due("not that", it.chimney(1, 5), NONE);
        due("now the first is lit", it.perform(0), 0);
        Check.lightings(it, 1, 1, 6);
        due("all", it.perform(1), 1);
        it.numbers(2, 0, 0);
        due("none told", it.perform(2), 0);
        due("missing", it.perform(3), -6);
        due("no row 4", it.perform(4), -2);
        due("no row -1", it.perform(-1), -2);
    }

    // ---- promise 11

    private static void smoke() {
        SmokesApart it = Check.town(LEANING);
        due("nothing lit", it.smoke(3, 5, 0), 0);
        it.light(0, 3);
        due("before", it.smoke(2, 5, 0), 0);
        due("first", it.smoke(3, 5, 0), 4);
        due("second", it.smoke(4, 5, 0), 4);
        due("no third", it.smoke(5, 5, 0), 0);
        due("leans and thins", it.smoke(4, 6, 1), 3);
        due("leans again", it.smoke(5, 7, 2), 2);
        due("high wind above", it.smoke(6, 7, 3), 1);
        due("gone", it.smoke(7, 7, 4), 0);
        it.light(1, 4);
        due("both together", it.smoke(4, 6, 1), 6);
        due("no x -1", it.smoke(4, -1, 1), -2);
        due("no x 40", it.smoke(4, 40, 1), -2);
        due("no height -1", it.smoke(4, 1, -1), -2);
        due("no height 25", it.smoke(4, 1, 25), -2);
        due("no quarter -1", it.smoke(-1, 39, 24), -3);
        due("no quarter 48", it.smoke(48, 0, 0), -3);
        due("the cell is told first", it.smoke(48, 40, 0), -2);
        due("the last quarter", it.smoke(47, 39, 24), 0);
    }

    // ---- promise 12

    private static void puffs() {
        SmokesApart it = Check.town(LEANING);
        it.light(0, 3);
        it.light(1, 4);
        int[] due = {0, 0, 0, 1, 3, 3, 3, 1, 0};
        for (int q = 0; q < due.length; q++) due("puffs " + q, it.puffs(q), due[q]);
        due("puffs 47", it.puffs(47), 0);
        due("puffs 48", it.puffs(48), -3);
        due("puffs -1", it.puffs(-1), -3);
    }

    // ---- promise 13

    private static void puff() {
        SmokesApart it = Check.town(LEANING);
        it.light(0, 3);
        int[] xs = {NONE, NONE, NONE, 5, 6, 7, 7, NONE};
        for (int q = 0; q < xs.length; q++) {
            due("x in " + q, it.puff(0, 0, q, false), xs[q]);
            due("height in " + q, it.puff(0, 0, q, true), xs[q] == NONE ? NONE : q - 3);
            due("x of the next in " + (q + 1), it.puff(0, 1, q + 1, false), xs[q]);
        }
        due("no k 2", it.puff(0, 2, 5, false), NONE);
        due("no k -1", it.puff(0, -1, 5, true), NONE);
        due("no k least", it.puff(0, LEAST, 5, true), NONE);
        due("no k greatest", it.puff(0, GREATEST, 5, true), NONE);
        due("not lit", it.puff(1, 0, 5, false), -5);
        due("not lit, no quarter", it.puff(1, 0, 48, false), -3);
        due("no quarter", it.puff(0, 9, -1, false), -3);
        due("no chimney", it.puff(3, 9, -1, false), -2);
        due("no chimney -1", it.puff(-1, 0, 0, false), -2);
    }

    /** Smoke goes by the wind of each quarter behind its first, out of all cells it is gone. */
    private static void ways() {
        SmokesApart it = Check.town("chimney 1 0 9;chimney 38 11 9;wind 0 6 6;wind 3 0 5;wind 4 1 4;layer 2;");
        it.light(0, 1);
        it.light(1, 1);
        due("its own quarter's wind does nothing", it.puff(0, 0, 1, false), 1);
        due("quarter 2: low", it.puff(0, 0, 2, false), 4);
        due("quarter 3: low, at height 1", it.puff(0, 0, 3, false), 1);
        due("quarter 4: high, at height 2", it.puff(0, 0, 4, false), 2);
        due("quarter 5", it.puff(0, 0, 5, false), 3);
        due("out to the right", it.puff(1, 0, 2, false), NONE);
        due("and never back", it.puff(1, 0, 3, false), NONE);
        SmokesApart left = Check.town("chimney 2 0 9;wind 0 2 2;wind 5 6 6;");
        left.light(0, 1);
        due("at the edge", left.puff(0, 0, 3, false), 0);
        due("out to the left", left.puff(0, 0, 4, false), NONE);
        due("and never back", left.puff(0, 0, 6, false), NONE);
        due("no soot of it", left.soot(3), 0);
        due("one cell each", left.puffs(3), 1);
        due("none", left.puffs(5), 0);
        SmokesApart late = Check.town("chimney 20 12 1 1 1 1 1 9;wind 30 4 4;");
        late.light(0, 23);
        due("late", late.puff(0, 5, 36, false), 27);
        due("high", late.puff(0, 5, 36, true), 20);
        due("gone", late.puff(0, 5, 37, true), NONE);
    }

    // ---- promises 14 and 15

    private static void touches() {
        SmokesApart it = Check.town(LEANING);
        it.light(0, 3);
        due("one isn't lit", it.touch(0, 1), NONE);
        due("one isn't lit: quarters", it.touching(1, 0), 0);
        it.light(1, 4);
        due("touch", it.touch(0, 1), 4);
        due("touch back", it.touch(1, 0), 4);
        due("touching", it.touching(0, 1), 2);
        due("touching back", it.touching(1, 0), 2);
        it.out(1);
        it.light(1, 6);
        due("too late", it.touch(0, 1), NONE);
        it.light(2, 5);
        due("too far", it.touch(0, 2), NONE);
        int[][] wrong = {{0, 0}, {0, 3}, {3, 0}, {-1, 0}, {0, -1}, {LEAST, GREATEST}};
        for (int[] w : wrong) {
            due("touch " + w[0] + " " + w[1], it.touch(w[0], w[1]), -2);
            due("touching " + w[0] + " " + w[1], it.touching(w[0], w[1]), -2);
        }
        SmokesApart thin = Check.town("chimney 5 0 4;chimney 5 0 1 4;thick 3;");
        thin.light(0, 0);
        thin.light(1, 0);
        due("one is too thin", thin.touch(0, 1), NONE);
        SmokesApart meet = Check.town("chimney 5 0 9 9 9;chimney 5 2 9 9;thick 6;");
        meet.light(0, 1);
        meet.light(1, 3);
        due("by several puffs, each quarter once", meet.touching(0, 1), 3);
        due("the first", meet.touch(1, 0), 3);
    }

    // ---- promise 16

    private static void pair() {
        SmokesApart it = Check.town("chimney 1 0 2;chimney 1 0 2;chimney 9 0 2;chimney 9 0 2;chimney 9 0 2;");
        due("none", it.pair(NONE), 0);
        due("none: 0", it.pair(0), NONE);
        it.light(0, 5);
        it.light(1, 5);
        it.light(2, 3);
        it.light(3, 3);
        due("two", it.pair(NONE), 2);
        due("by the quarter", it.pair(0), 3043);
        due("then", it.pair(1), 5001);
        due("no more", it.pair(2), NONE);
        due("-2", it.pair(-2), NONE);
        due("least", it.pair(LEAST), NONE);
        it.light(4, 3);
        due("four", it.pair(NONE), 4);
        due("by numbers", it.pair(1), 3044);
        due("by numbers, the lesser first", it.pair(2), 3064);
        due("the last", it.pair(3), 5001);
        SmokesApart all = Check.town("chimney 1 0 2;".repeat(10));
        for (int c = 0; c < 10; c++) all.light(c, 23);
        due("all", all.pair(NONE), 45);
        due("the 44th", all.pair(44), 23000 + 8 * 20 + 9);
        due("the 45th", all.pair(45), NONE);
    }

    // ---- promise 17

    private static void pays() {
        SmokesApart it = Check.town(LEANING);
        it.light(0, 3);
        it.light(1, 4);
        due("the later", it.pays(1), 14);
        due("not the earlier", it.pays(0), 0);
        due("not lit", it.pays(2), 0);
        due("all", it.count(6), 14);
        SmokesApart turned = Check.town("chimney 6 1 3;chimney 5 0 4 4;wind 0 4 3;layer 2;fine 7;");
        turned.light(0, 4);
        turned.light(1, 3);
        due("the later, whatever its number", turned.pays(0), 14);
        due("the earlier", turned.pays(1), 0);
        SmokesApart like = Check.town("chimney 5 0 3;chimney 5 0 2;chimney 5 0 3;fine 10;");
        like.light(2, 6);
        like.light(1, 6);
        like.light(0, 6);
        due("of like ones the greater", like.pays(2), 30);
        due("between", like.pays(1), 10);
        due("the least", like.pays(0), 0);
        due("all", like.count(6), 40);
        due("no chimney", like.pays(3), -2);
        due("no chimney -1", like.pays(-1), -2);
        SmokesApart cheap = Check.town("chimney 5 0 3;chimney 5 0 3;fine 0;");
        cheap.light(0, 0);
        cheap.light(1, 0);
        due("fine 0", cheap.pays(1), 0);
    }

    // ---- promises 18 and 19

    private static void soot() {
        SmokesApart it = Check.town(LEANING);
        due("blackest of none", it.blackest(), 0);
        it.light(0, 3);
        due("soot 5", it.soot(5), 8);
        due("soot 6", it.soot(6), 6);
        due("soot 7", it.soot(7), 6);
        due("soot 8", it.soot(8), 0);
        due("blackest", it.blackest(), 5);
        it.light(1, 20);
        due("soot 6 of both", it.soot(6), 9);
        due("soot 7 of both", it.soot(7), 9);
        due("blackest, the least", it.blackest(), 6);
        due("soot 39", it.soot(39), 0);
        due("soot 40", it.soot(40), -2);
        due("soot -1", it.soot(-1), -2);
    }

    // ---- promise 20

    private static void free() {
        SmokesApart it = Check.town(LEANING);
        due("all", it.free(0), 0xffffff);
        due("from 2 to 9", it.free(2), 0x3fc);
        it.light(0, 3);
        due("but 4 and 5", it.free(1), 0xffffff & ~0x30);
        due("itself aside", it.free(0), 0xffffff);
        it.light(1, 4);
        due("lit ones too", it.free(1), 0xffffff & ~0x30);
        due("and the other", it.free(0), 0xffffff & ~0xc);
        due("no chimney", it.free(3), -2);
        due("no chimney -1", it.free(-1), -2);
        SmokesApart shut = Check.town("chimney 5 0 9;chimney 5 0 9 from 23;");
        shut.light(0, 23);
        due("none", shut.free(1), 0);
        due("the 23rd alone", Check.town("chimney 5 0 9 from 23;").free(0), 1 << 23);
    }

    // ---- promise 21

    private static void planned(SmokesApart it, int latest, int sum, int... quarters) {
        due("plan 0", it.plan(0), latest);
        due("plan 1", it.plan(1), sum);
        for (int c = 0; c < quarters.length; c++) due("plan " + (10 + c), it.plan(10 + c), quarters[c]);
        due("plan of none", it.plan(10 + quarters.length), -2);
    }

    private static void plan() {
        SmokesApart it = Check.town(CLOSE);
        planned(it, 2, 3, 0, 1, 2);
        due("nothing is lit by it", it.count(1), 0);
        it.light(1, 0);
        planned(it, 2, 3, 1, 0, 2);
        it.light(0, 0);
        planned(it, 1, 1, 0, 0, 1);
        it.light(2, 23);
        planned(it, 0, 0, 0, 0, 23);
        for (int what : new int[] {-1, 2, 9, 13, LEAST, GREATEST}) due("plan " + what, it.plan(what), -2);
        SmokesApart none = Check.town("chimney 5 0 2 to 0;chimney 5 0 2;chimney 5 0 2 to 0;");
        due("none", none.plan(0), NONE);
        due("none: sum", none.plan(1), NONE);
        none.light(1, 7);
        due("none: of a lit one", none.plan(11), NONE);
        due("none, but no such", none.plan(13), -2);
    }

    private static void planOrder() {
        planned(Check.town("chimney 5 0 2;chimney 5 0 2;"), 1, 1, 0, 1);
        planned(Check.town("chimney 5 0 6 6 6 6 to 4;chimney 5 4 2 from 7 to 8;"), 7, 11, 4, 7);
        planned(Check.town("chimney 5 0 2 to 3;chimney 5 0 2 from 2;chimney 5 0 2 from 2;"), 3, 5, 0, 2, 3);
        planned(Check.town("chimney 5 0 2 2 2;chimney 5 0 2;chimney 5 0 2;chimney 9 0 2 from 4;"), 4, 7, 2, 0, 1, 4);
        planned(Check.town("chimney 5 0 2 2;chimney 5 0 2 2;chimney 5 0 2 2;chimney 5 0 2 2;chimney 5 0 2 2;"),
            8, 20, 0, 2, 4, 6, 8);
        planned(Check.town("chimney 5 0 2 from 4 to 4;chimney 5 0 2 2;chimney 5 0 2 2;"), 4, 6, 4, 0, 2);
    }

    // ---- promise 22

    private static void plans() {
        SmokesApart it = Check.town(CLOSE);
        due("plans", it.plans(), 11132);
        it.light(2, 0);
        due("with one lit", it.plans(), 22 * 21);
        it.light(0, 3);
        it.light(1, 3);
        due("all lit", it.plans(), 1);
        due("none", Check.town("chimney 5 0 2 to 0;chimney 5 0 2 to 0;").plans(), 0);
        due("99360", Check.town("chimney 1 0 1 to 22;chimney 5 0 1 to 14;chimney 9 0 1 to 11;chimney 20 0 1 to 23;").plans(), 99360);
        due("99", Check.town("chimney 1 0 1 to 8;chimney 1 0 1 to 10;").plans(), 99);
        due("100000 and more", Check.town("chimney 1 0 1;chimney 5 0 1;chimney 9 0 1;chimney 20 0 1;").plans(), 100000);
        due("100000", Check.town("chimney 1 0 1 to 19;chimney 5 0 1 to 19;chimney 9 0 1 to 9;chimney 20 0 1 to 4;chimney 30 0 1 to 4;")
            .plans(), 100000);
        due("five", Check.town("chimney 1 0 1;".repeat(5)).plans(), 100000);
    }

    // ---- promise 23

    private static void shut() {
        due("a plan", Check.town(CLOSE).shut(), 0);
        due("a pair", Check.town("chimney 5 0 2;chimney 5 0 2 to 0;chimney 5 0 2 to 0;").shut(), 6);
        due("three", Check.town("chimney 5 0 2 to 1;".repeat(3)).shut(), 7);
        due("the least three of four", Check.town("chimney 5 0 2 to 1;".repeat(4)).shut(), 7);
        String a = "chimney 5 0 2 to 0;";
        String b = "chimney 9 0 2 to 0;";
        due("the least pair as bits", Check.town(a + b + b + a).shut(), 6);
        due("fewer before less", Check.town("chimney 9 0 2 to 1;".repeat(3) + a + a).shut(), 24);
        SmokesApart it = Check.town("chimney 5 0 2;chimney 9 0 2 to 0;chimney 5 0 2 to 0;chimney 9 0 2 to 0;");
        it.light(0, 0);
        due("one alone, by a lit one", it.shut(), 4);
        it.light(2, 0);
        due("the rest", it.shut(), 10);
        it.light(1, 0);
        it.light(3, 0);
        due("all lit, whatever touches", it.shut(), 0);
    }

    // ---- promise 24

    private static void most() {
        SmokesApart it = Check.town("chimney 5 0 2 from 2 to 3;chimney 5 0 2 to 1;chimney 5 0 2 to 1;chimney 5 0 2 to 1;");
        due("by 0: how many", it.most(0, 0), 1);
        due("by 0: the least", it.most(0, 1), 2);
        due("by 1: how many", it.most(1, 0), 2);
        due("by 1: the least", it.most(1, 1), 6);
        due("by 2: how many", it.most(2, 0), 3);
        due("by 2: the least", it.most(2, 1), 7);
        due("by 23", it.most(23, 1), 7);
        it.light(1, 0);
        due("not of lit ones", it.most(23, 1), 5);
        due("free alone", it.most(0, 0), 0);
        due("none", it.most(0, 1), 0);
        due("no what 2", it.most(0, 2), -2);
        due("no what -1", it.most(99, -1), -2);
        due("no quarter 24", it.most(24, 0), -3);
        due("no quarter -1", it.most(-1, 1), -3);
    }

    private static void tooManyUnlit() {
        SmokesApart it = Check.town("chimney 5 0 2;".repeat(6));
        due("plan", it.plan(0), -4);
        due("plan of a chimney", it.plan(15), -4);
        due("plan: no such", it.plan(16), -2);
        due("plans", it.plans(), -4);
        due("shut", it.shut(), -4);
        due("most", it.most(5, 0), -4);
        due("most: no quarter", it.most(24, 0), -3);
        due("most: no what", it.most(24, 2), -2);
        it.light(3, 0);
        due("five: plan", it.plan(0), 5);
        due("five: plans", it.plans(), 100000);
        due("five: shut", it.shut(), 0);
        due("five: most", it.most(2, 1), 3);
    }

    // ---- promises 25 and 26

    private static void price() {
        SmokesApart it = Check.town(LEANING);
        due("nobody lit", it.price(1, 4), 0);
        due("cheapest, nobody lit", it.cheapest(2), 2);
        it.light(0, 3);
        due("two quarters", it.price(1, 4), 14);
        due("two others", it.price(1, 5), 14);
        due("none", it.price(1, 6), 0);
        due("it isn't lit by that", it.chimney(1, 5), NONE);
        due("before from", it.price(2, 1), NONE);
        due("behind to", it.price(2, 10), NONE);
        due("no quarter", it.price(1, 24), NONE);
        due("no quarter -1", it.price(1, -1), NONE);
        due("lit", it.price(0, 99), -5);
        due("no chimney", it.price(3, 99), -2);
        due("cheapest lit", it.cheapest(0), -5);
        due("cheapest no chimney", it.cheapest(3), -2);
        due("cheapest -1", it.cheapest(-1), -2);
        SmokesApart dear = Check.town("chimney 5 0 9;chimney 5 0 9 9;chimney 5 0 9 9 from 3 to 4;fine 2;");
        dear.light(0, 3);
        dear.light(1, 4);
        due("3: 8 quarters with 0, 8 with 1", dear.price(2, 3), 32);
        due("4: 9 with 1", dear.price(2, 4), 18);
        due("the cheaper", dear.cheapest(2), 4);
        SmokesApart like = Check.town("chimney 5 0 9;chimney 5 0 9 from 3 to 5;");
        like.light(0, 3);
        due("the first of like ones", like.cheapest(1), 4);
    }

    // ---- promise 27

    private static void higher() {
        SmokesApart it = Check.town(LEANING);
        it.light(0, 3);
        due("touches none", it.higher(0), 0);
        it.light(1, 4);
        due("by 1", it.higher(1), 1);
        due("the other by 1", it.higher(0), 1);
        due("it isn't higher by that", it.chimney(0, 1), 0);
        due("nor touches less", it.touch(0, 1), 4);
        due("not lit", it.higher(2), -5);
        due("no chimney", it.higher(3), -2);
        due("no chimney -1", it.higher(-1), -2);
        SmokesApart tower = Check.town("chimney 5 0 9 9 9 9 9 9;chimney 5 0 9 9 9 9 9 9;thick 9;");
        tower.light(0, 0);
        tower.light(1, 0);
        due("thick at their beginnings alone", tower.higher(1), 1);
        SmokesApart thin = Check.town("chimney 5 0 9 9 9 9 9 9;chimney 5 0 9 9 9 9 9 9;thick 1;");
        thin.light(0, 0);
        thin.light(1, 5);
        due("till 0 is gone", thin.higher(1), 9);
        due("by 12", higherBetween(6), 12);
        due("not by 12", higherBetween(7), NONE);
    }

    /** How much higher a chimney must be with one at its place and one above that. */
    private static int higherBetween(int height) {
        String long9 = " 9 9 9 9 9 9;";
        SmokesApart it = Check.town("chimney 5 0" + long9 + "chimney 5 0" + long9 + "chimney 5 " + height + long9 + "thick 1;");
        for (int c = 0; c < 3; c++) it.light(c, 5);
        return it.higher(0);
    }

    // ---- promise 28

    private static void thickness() {
        SmokesApart it = Check.town(LEANING);
        it.light(0, 3);
        due("one alone", it.thickness(), 1);
        it.light(1, 4);
        due("both 3 thick", it.thickness(), 4);
        SmokesApart most = Check.town("chimney 5 0 9;chimney 5 0 9;chimney 5 0 1;");
        most.light(0, 7);
        most.light(2, 7);
        due("1 thick", most.thickness(), 2);
        most.light(1, 7);
        due("9 thick", most.thickness(), 10);
    }

    // ---- promises 29 to 31

    private static final String SOOTY = "chimney 5 0 3 from 1 to 2;chimney 6 0 2;";

    private static void sheets() {
        SmokesApart it = Check.town(SOOTY);
        it.light(0, 1);
        Check.row(it, 0, 1, 5, 6);
        due("0 is lit", it.sheets(0), 50);
        Check.row(it, 0, 1, 5, 0);
        due("0 isn't", it.sheets(0), 25);
        Check.row(it, 0, 1, 5, 6, 6, 3);
        due("both are", it.sheets(0), 48);
        Check.row(it, 0, 1, 5, 6, 5, 0);
        due("told twice otherwise", it.sheets(0), 0);
        Check.row(it, 0, 1, 5, 6, 5, 6);
        due("told twice alike", it.sheets(0), 50);
        Check.row(it, 0, 1);
        due("nothing told", it.sheets(0), 75);
        Check.row(it, 0, 3, 5, 6 + (1L << 32));
        due("more soot than any", it.sheets(0), 0);
        long[][] cannot = {{5}, {5, 6, 7}, {40, 0}, {-1, 0}, {5, -1}, {5, 6, 6, Long.MIN_VALUE}, {5 + (1L << 32), 6}};
        for (long[] row : cannot) {
            Check.row(it, 0, 3, row);
            due("sheets that can't be", it.sheets(0), -3);
            due("sheet that can't be", it.sheet(0, 0, 0), -3);
            due("sure that can't be", it.sure(0), -3);
        }
        for (int row : new int[] {-1, 4, LEAST, GREATEST}) {
            due("no row", it.sheets(row), -2);
            due("no row, sheet", it.sheet(row, 0, 0), -2);
            due("no row, sure", it.sure(row), -2);
        }
        due("missing", it.sheets(1), -6);
        due("missing, sheet", it.sheet(1, 0, 0), -6);
        due("missing, sure", it.sure(1), -6);
        SmokesApart four = Check.town("chimney 5 0 2;".repeat(4));
        due("missing first", four.sheets(0), -6);
        Check.row(four, 0, 0, 99);
        due("four", four.sheets(0), -4);
        due("four, sheet", four.sheet(0, 0, 0), -4);
        due("four, sure", four.sure(0), -4);
        SmokesApart three = Check.town("chimney 5 0 2;".repeat(3));
        three.numbers(0, 0, 40);
        due("three, none lit", three.sheets(0), 15625);
        SmokesApart none = new SmokesApart();
        Check.row(none, 0, 0, 7, 0);
        due("no chimneys, one day", none.sheets(0), 1);
        Check.row(none, 0, 0, 7, 1);
        due("no chimneys, no soot", none.sheets(0), 0);
    }

    private static void sheet() {
        SmokesApart it = Check.town(SOOTY);
        Check.row(it, 0, 1, 5, 6);
        due("the 0th: 0", it.sheet(0, 0, 0), 1);
        due("the 0th: 1", it.sheet(0, 0, 1), NONE);
        due("the 1st: 1", it.sheet(0, 1, 1), 0);
        due("the 24th: 1", it.sheet(0, 24, 1), 23);
        due("the 24th: 0", it.sheet(0, 24, 0), 1);
        due("the 25th: 0", it.sheet(0, 25, 0), 2);
        due("the 49th: 1", it.sheet(0, 49, 1), 23);
        due("the 50th", it.sheet(0, 50, 1), -5);
        due("k -1", it.sheet(0, -1, 1), -5);
        due("k least", it.sheet(0, LEAST, 1), -5);
        due("no chimney", it.sheet(0, 0, 2), -2);
        due("no chimney -1", it.sheet(0, 0, -1), -2);
        due("no chimney, missing", it.sheet(1, 0, 2), -2);
        SmokesApart three = Check.town("chimney 5 0 1 to 0;".repeat(3));
        Check.row(three, 0, 1, 5, 2);
        due("two of three", three.sheets(0), 3);
        for (int k = 0; k < 3; k++)
            for (int c = 0; c < 3; c++) due("day " + k + " chimney " + c, three.sheet(0, k, c), k == c ? NONE : 0);
        SmokesApart wind = Check.town("chimney 5 0 2 to 1;wind 1 4 4;wind 2 5 5;");
        Check.row(wind, 0, 1, 6, 1);
        due("by the wind", wind.sheets(0), 1);
        due("by the wind: which", wind.sheet(0, 0, 0), 0);
        Check.row(wind, 0, 1, 7, 1);
        due("by the other wind", wind.sheet(0, 0, 0), 1);
    }

    private static void sure() {
        SmokesApart it = Check.town("chimney 5 0 1 to 0;".repeat(3));
        int[] due = {0, 0, 0, 7, 0};
        for (int lit = 0; lit < due.length; lit++) {
            Check.row(it, 0, 1, 5, lit);
            due("sure by " + lit, it.sure(0), due[lit]);
        }
        SmokesApart two = Check.town("chimney 5 0 2;chimney 6 0 1;chimney 7 0 1;");
        Check.row(two, 0, 1, 7, 1);
        due("the last", two.sure(0), 4);
        Check.row(two, 0, 1, 6, 1, 5, 3);
        due("the first two", two.sure(0), 3);
    }

    // ---- promises 32, 33 and 36

    private static void gusts() {
        SmokesApart it = Check.town(GUSTY);
        it.light(0, 0);
        due("one alone", it.gusts(5), 0);
        it.light(1, 1);
        int[] breaking = {5, 7, 10, 12, 33, 36, 38, 59};
        int at = 0;
        for (int seed = 1; seed <= 60; seed++) {
            boolean breaks = at < breaking.length && breaking[at] == seed;
            if (breaks) at++;
            due("gusts " + seed, it.gusts(seed), breaks ? 1 : 0);
            due("calm " + seed, it.calm(seed), seed - at);
            due("breaks " + seed, it.breaks(seed), at == 0 ? NONE : 5);
        }
        due("calm 0", it.calm(0), -3);
        due("calm 61", it.calm(61), -3);
        due("calm least", it.calm(LEAST), -3);
        due("breaks 0", it.breaks(0), -3);
        due("breaks 200", it.breaks(200), 5);
        due("breaks 201", it.breaks(201), -3);
        due("breaks greatest", it.breaks(GREATEST), -3);
        due("the told wind stays", it.touch(0, 1), NONE);
        SmokesApart high = Check.town(GUSTY + "layer 0;");
        high.light(0, 0);
        high.light(1, 1);
        due("high 2", high.breaks(2), NONE);
        due("high 3", high.breaks(3), 3);
        due("the least seed of all", high.gusts(LEAST), 1);
        due("seed -1", high.gusts(-1), 0);
        SmokesApart always = Check.town("chimney 5 0 9;".repeat(3));
        for (int c = 0; c < 3; c++) always.light(c, 4);
        due("three pairs", always.gusts(77), 3);
        due("never calm", always.calm(60), 0);
        due("at once", always.breaks(200), 1);
    }

    // ---- promise 34

    private static void steady() {
        SmokesApart it = Check.town(GUSTY);
        it.light(0, 0);
        due("all", it.steady(NONE), 49);
        it.light(1, 1);
        due("but low 4", it.steady(NONE), 42);
        due("27", it.steady(27), 27);
        due("28", it.steady(28), 35);
        due("41", it.steady(41), 48);
        due("42", it.steady(42), NONE);
        due("-2", it.steady(-2), NONE);
        due("least", it.steady(LEAST), NONE);
        SmokesApart high = Check.town(GUSTY + "layer 0;");
        high.light(0, 0);
        high.light(1, 1);
        due("high: 3", high.steady(3), 3);
        due("high: 4", high.steady(4), 5);
        due("high: 6", high.steady(6), 7);
    }

    // ---- promises 35 and 37

    private static void best() {
        SmokesApart it = Check.town(GUSTY);
        due("nobody lit: best", it.best(1, 20), 1);
        due("nobody lit: worth", it.worth(1, 20), 0);
        it.light(0, 0);
        due("best of 1", it.best(1, 1), 1);
        due("best of 4", it.best(1, 4), 1);
        due("best of 5", it.best(1, 5), 2);
        due("best of 20", it.best(1, 20), 2);
        due("worth of 5", it.worth(1, 5), 0);
        due("worth of 20", it.worth(1, 20), 1);
        due("it isn't lit by that", it.count(1), 1);
        int[][] wrong = {{1, 0, -3}, {1, 21, -3}, {1, LEAST, -3}, {0, 0, -5}, {0, 5, -5}, {2, 0, -2}, {-1, 5, -2}};
        for (int[] w : wrong) {
            due("best " + w[0] + " " + w[1], it.best(w[0], w[1]), w[2]);
            due("worth " + w[0] + " " + w[1], it.worth(w[0], w[1]), w[2]);
        }
        SmokesApart never = Check.town("chimney 5 0 9;chimney 5 0 9 from 6 to 6;");
        never.light(0, 6);
        due("good on no day", never.best(1, 20), 6);
        due("nothing is worth", never.worth(1, 20), 0);
    }

    // ---- promise 38

    private static void sky() {
        SmokesApart it = Check.town("chimney 5 0 9 9;chimney 6 0 1;chimney 6 0 9;");
        due("none", it.sky(), 0);
        it.light(0, 0);
        due("9 cells", it.sky(), 0);
        it.light(1, 0);
        due("10 cells", it.sky(), 1);
        it.light(2, 5);
        due("18 cells", it.sky(), 1);
        StringBuilder wide = new StringBuilder();
        for (int c = 0; c < 10; c++) wide.append("chimney ").append(4 * c).append(" 0 9;");
        SmokesApart many = Check.town(wide.toString());
        for (int c = 0; c < 10; c++) many.light(c, c);
        due("90 cells", many.sky(), 9);
        StringBuilder forked = new StringBuilder("wind 1 4 4;wind 2 3 3;");
        for (int c = 0; c < 7; c++) forked.append("chimney ").append(5 * c).append(" 0 9 9;");
        SmokesApart fork = Check.town(forked.toString());
        for (int c = 0; c < 7; c++) fork.light(c, 0);
        due("119 cells", fork.sky(), 11);
    }

    // ---- promises 39 and 40

    private static void rows() {
        SmokesApart it = new SmokesApart();
        due("missing", it.write(0, 0, 1), -6);
        due("8 bits", it.numbers(0, 0, 3), 0);
        long[][] cuts = {{0, 127, 127}, {0, 128, -128}, {0, -129, 127}, {0, 256, 0}, {1, 32767, 32767}, {1, 32768, -32768},
            {1, 65535, -1}, {2, 1L << 31, -(1L << 31)}, {2, (1L << 32) + 5, 5}, {3, Long.MIN_VALUE, Long.MIN_VALUE},
            {3, Long.MAX_VALUE, Long.MAX_VALUE}};
        for (long[] cut : cuts) {
            it.numbers(1, (int) cut[0], 40);
            due("cut " + cut[1], it.write(1, 39, cut[1]), cut[2]);
        }
        for (int i : new int[] {-1, 3, 40, LEAST, GREATEST}) due("no number " + i, it.write(0, i, 1), -7);
        for (int row : new int[] {-1, 4, LEAST, GREATEST}) {
            due("no row " + row, it.write(row, 99, 1), -2);
            due("no row, numbers " + row, it.numbers(row, 0, 99), -2);
        }
        due("no sort -1", it.numbers(0, -1, 99), -2);
        due("no sort 4", it.numbers(0, 4, 1), -2);
        due("n -1", it.numbers(0, 3, -1), -3);
        due("n 41", it.numbers(0, 3, 41), -3);
        due("the row stays", it.write(0, 2, 300), 44);
        due("missing still", it.numbers(2, 0, 41), -3);
        due("missing still", it.write(2, 0, 0), -6);
        due("none at all", it.numbers(2, 0, 0), 0);
        due("none at all", it.write(2, 0, 0), -7);
        SmokesApart lit = Check.town(LEANING);
        Check.lightings(lit, 0, 1, 1);
        lit.numbers(0, 1, 1);
        due("all 0", lit.perform(0), 1);
        due("all 0: chimney 0 in 0", lit.chimney(0, 5), 0);
    }

    // ---- promise 41

    private static void copy() {
        SmokesApart it = Check.town("chimney 1 0 1;chimney 5 0 1;chimney 9 0 1;");
        it.light(1, 23);
        it.light(2, 7);
        due("missing", it.copy(0), -6);
        due("no row 4", it.copy(4), -2);
        due("no row -1", it.copy(-1), -2);
        Check.row(it, 0, 0, 32, 64);
        due("too few places", it.copy(0), -7);
        due("nothing came", it.judge(0, 1), 2);
        Check.row(it, 0, 0, 5, 5, 5, 5);
        due("copy", it.copy(0), 3);
        it.out(1);
        it.out(2);
        due("-1 is no lighting", it.judge(0, 0), 0);
        due("as it should", it.judge(0, 1), 1);
        it.light(0, 2);
        it.light(1, 3);
        it.light(2, 4);
        Check.row(it, 1, 3, 9, 9, 9, 6);
        due("copy", it.copy(1), 3);
        Check.tell(it, "chimney 3 0 1;chimney 4 0 1;");
        due("soot told by copied numbers", it.sheets(1), 0);
        due("sheets that can be", it.sure(1), 0);
        SmokesApart none = new SmokesApart();
        none.numbers(0, 0, 0);
        due("nobody", none.copy(0), 0);
        SmokesApart sheet = Check.town("chimney 6 0 2;chimney 7 0 1;");
        sheet.light(0, 6);
        sheet.light(1, 3);
        sheet.numbers(0, 0, 2);
        sheet.copy(0);
        due("6 and 3, as a sheet", sheet.sheets(0), 24 * 25);
        sheet.out(1);
        sheet.copy(0);
        due("6 and NONE, as a sheet", sheet.sheets(0), -3);
    }

    // ---- promises 42 and 43

    private static void images() {
        SmokesApart it = new SmokesApart();
        due("none was made", it.restore(0), -5);
        due("image of no town", it.image(1), 0);
        Check.tell(it, LEANING);
        it.light(0, 3);
        it.light(1, 4);
        due("image", it.image(0), 0);
        it.out(1);
        it.light(2, 5);
        Check.tell(it, "chimney 30 0 1;fine 1;wind 0 0 0;");
        it.light(0, 9);
        it.numbers(0, 0, 3);
        Check.feed(it, "fine 1;");
        due("restore", it.restore(0), 0);
        int[] counts = {3, 2, 1, 2, 2, 7, 14, 20, 6};
        for (int i = 0; i < counts.length; i++) due("count " + i, it.count(i), counts[i]);
        due("lit", it.chimney(0, 5), 3);
        due("not lit", it.chimney(2, 5), NONE);
        due("touches", it.touch(0, 1), 4);
        due("wind", it.wind(7, false), 4);
        due("rows aren't in it", it.write(0, 2, 5), 5);
        due("restore no town", it.restore(1), 0);
        due("no chimneys", it.count(0), 0);
        due("no lines", it.count(8), 0);
        due("restore again", it.restore(0), 0);
        it.out(0);
        due("and again", it.restore(0), 0);
        due("as it was", it.chimney(0, 5), 3);
        it.out(0);
        due("another in its place", it.image(0), 0);
        it.light(0, 7);
        it.restore(0);
        due("that one", it.chimney(0, 5), NONE);
        for (int i : new int[] {-1, 2, LEAST, GREATEST}) {
            due("no image " + i, it.image(i), -2);
            due("no image, restore " + i, it.restore(i), -2);
        }
    }

    // ---- promise 44

    private static void count() {
        SmokesApart it = Check.town("wind 3 3 3;wind 3 4 4;" + LEANING + "thick 1;thick 3;");
        it.light(0, 3);
        it.light(1, 4);
        Check.feed(it, "1");
        int[] counts = {3, 2, 3, 2, 3, 7, 7, 20, 10};
        for (int i = 0; i < counts.length; i++) due("count " + i, it.count(i), counts[i]);
        for (int what : new int[] {-1, 9, LEAST, GREATEST}) due("count " + what, it.count(what), NONE);
    }
}
