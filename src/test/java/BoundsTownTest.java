import java.util.function.Supplier;

/** Bounds of the town's text, and of promises 1 to 6. */
public final class BoundsTownTest {
    private static final int NONE = Bounds.NONE;
    private static final int LEAST = Bounds.LEAST;
    private static final int GREATEST = Bounds.GREATEST;

    private BoundsTownTest() {
    }

    public static void main(String[] args) {
        texts();
        chimneyLines();
        windLines();
        settings();
        tokens();
        faults();
        promise1();
        promise2();
        promise3();
        promise4();
        promise5();
        promise6();
        Bounds.end(1, 6);
    }

    private static void due(String call, long got, long want) {
        Bounds.due(call, got, want);
    }

    /** A text that is refused, told to an object that has much to lose: all stays but for the tape. */
    private static void faulty(String text, int kind, int place) {
        SmokesApart it = Bounds.lively().get();
        it.town(0);
        it.restore(0);
        due("town of " + shown(text), Check.tell(it, text), -30 - kind);
        due("the fault of " + shown(text), it.fault(0), kind);
        due("the place in " + shown(text), it.fault(1), place);
        int[] counts = {2, 1, 1, 6, 2, 3, 0, 0, 4};
        for (int i = 0; i < counts.length; i++) due("count " + i + " stays with " + shown(text), it.count(i), counts[i]);
        due("a fire stays with " + shown(text), it.chimney(1, 5), 23);
    }

    private static SmokesApart taken(String text, int lines) {
        SmokesApart it = new SmokesApart();
        due("town of " + shown(text), Check.tell(it, text), lines);
        due("no fault of " + shown(text), it.fault(0), 0);
        due("no place in " + shown(text), it.fault(1), NONE);
        due("lines of " + shown(text), it.count(8), lines);
        return it;
    }

    private static String shown(String text) {
        return text.length() < 60 ? text : text.substring(0, 20) + " .. " + text.substring(text.length() - 20);
    }

    /** A number of a line: the least and the greatest are taken, what lies beyond them isn't. */
    private static void number(String before, int least, int greatest, String after, int what) {
        for (int n : new int[] {least, least + 1, greatest - 1, greatest}) {
            SmokesApart it = taken(before + n + after, 1);
            due("as told: " + before + n + after, what < 100 ? it.chimney(0, what) : it.count(what - 100), n);
        }
        if (least > 0) faulty(before + (least - 1) + after, 3, before.length());
        faulty(before + "-1" + after, 1, before.length());
        for (int n : new int[] {greatest + 1, 999}) faulty(before + n + after, 3, before.length());
        faulty(before + 1000 + after, 1, before.length());
    }

    // ---- terms

    private static void texts() {
        Bounds.holds(0, "THE TOWN is a TEXT of at most 900 bytes", () -> {
            String last = " ".repeat(893) + "fine 7;";
            due("the last of 900 bytes counts", taken(last, 1).count(5), 7);
            faulty(last.substring(1) + "8", 2, 899);
            taken("fine 1;".repeat(128) + "    ", 128);
            SmokesApart it = new SmokesApart();
            Check.feed(it, last);
            due("byte 900 is left out", it.town(899), -32);
            due("its place", it.fault(1), 899);
        });
        Bounds.holds(0, "(without one: no CHIMNEYS)", () -> {
            SmokesApart it = new SmokesApart();
            due("at first", it.count(0), 0);
            Check.tell(it, "chimney 1 1 1;");
            due("one", it.count(0), 1);
            due("an empty one", it.town(0), 0);
            due("none again", it.count(0), 0);
            due("not even the first", it.chimney(0, 0), -2);
        });
        Bounds.holds(0, "{ LINE ; }", () -> {
            taken("", 0);
            taken("fine 1;", 1);
            taken("fine 1;fine 1;", 2);
            faulty(";", 2, 0);
            faulty("fine 1;;", 2, 7);
            faulty("fine 1", 2, 6);
            faulty("fine 1;fine 1", 2, 13);
            faulty("fine 1 fine 1;", 2, 7);
        });
    }

    private static void chimneyLines() {
        Bounds.holds(0, "chimney N N N { N } [ from N ] [ to N ]", () -> {
            faulty("chimney;", 2, 7);
            faulty("chimney 0;", 2, 9);
            faulty("chimney 0 0;", 2, 11);
            taken("chimney 0 0 1;", 1);
            taken("chimney 0 0 1 1 1 1 1 1 from 0 to 23;", 1);
            taken("chimney 0 0 1 from 5;", 1);
            taken("chimney 0 0 1 to 5;", 1);
            faulty("chimney 0 0 1 from;", 2, 18);
            faulty("chimney 0 0 1 to;", 2, 16);
            faulty("chimney 0 0 1 from to 5;", 2, 19);
            faulty("chimney 0 0 1 to 5 from 5;", 2, 19);
            faulty("chimney 0 0 1 from 5 from 5;", 2, 21);
            faulty("chimney 0 0 1 to 5 to 5;", 2, 19);
            faulty("chimney 0 0 1 from 5 6;", 2, 21);
            faulty("chimney 0 0 1 to 5 6;", 2, 19);
            faulty("chimney 0 0 from 5;", 2, 12);
        });
        Bounds.holds(0, "its X 0 to 39", () -> number("chimney ", 0, 39, " 1 1;", 0));
        Bounds.holds(0, "its HEIGHT 0 to 12", () -> number("chimney 1 ", 0, 12, " 1;", 1));
        Bounds.holds(0, "SMOKE of its fire's QUARTERS, 1 to 9 each", () -> {
            number("chimney 1 1 ", 1, 9, ";", 10);
            number("chimney 1 1 5 ", 1, 9, ";", 11);
            number("chimney 1 1 5 5 5 5 5 ", 1, 9, ";", 15);
        });
        Bounds.holds(0, "1 to 6 of them", () -> {
            faulty("chimney 1 1;", 2, 11);
            StringBuilder line = new StringBuilder("chimney 1 1");
            for (int n = 1; n <= 6; n++) due("so many", taken(line.append(' ').append(n) + ";", 1).chimney(0, 4), n);
            faulty(line + " 7;", 4, line.length() + 1);
        });
        Bounds.holds(0, "it may be lit from a QUARTER 0 to 23 (0)", () -> {
            number("chimney 1 1 1 from ", 0, 23, ";", 2);
            due("not told", taken("chimney 1 1 1;", 1).chimney(0, 2), 0);
            due("not told, but to", taken("chimney 1 1 1 to 9;", 1).chimney(0, 2), 0);
        });
        Bounds.holds(0, "to one not below it (23)", () -> {
            number("chimney 1 1 1 to ", 0, 23, ";", 3);
            number("chimney 1 1 1 from 7 to ", 7, 23, ";", 3);
            due("both the last", taken("chimney 1 1 1 from 23 to 23;", 1).chimney(0, 3), 23);
            faulty("chimney 1 1 1 from 23 to 22;", 3, 25);
            faulty("chimney 1 1 1 from 1 to 0;", 3, 24);
            due("not told", taken("chimney 1 1 1;", 1).chimney(0, 3), 23);
            due("not told, but from", taken("chimney 1 1 1 from 23;", 1).chimney(0, 3), 23);
        });
        Bounds.holds(0, "CHIMNEYS are numbered from 0 on as they come, 10 at most", () -> {
            StringBuilder lines = new StringBuilder();
            for (int n = 1; n <= 10; n++) {
                lines.append("chimney ").append(30 - n).append(" 1 1;");
                SmokesApart it = taken(lines.toString(), n);
                due("so many", it.count(0), n);
                for (int c = 0; c < n; c++) due("number " + c, it.chimney(c, 0), 29 - c);
                due("no more", it.chimney(n, 0), -2);
                due("none ahead", it.chimney(-1, 0), -2);
            }
            faulty(lines + "chimney 1 1 1;", 4, lines.length());
        });
    }

    private static void windLines() {
        Bounds.holds(0, "from a QUARTER 0 to 47 on", () -> {
            due("from the first", taken("wind 0 1 5;", 1).wind(0, false), 1);
            SmokesApart last = taken("wind 47 1 5;", 1);
            due("from the last", last.wind(47, true), 5);
            due("not ahead of it", last.wind(46, true), 3);
            faulty("wind 48 1 5;", 3, 5);
            faulty("wind 999 1 5;", 3, 5);
            faulty("wind -1 1 5;", 1, 5);
        });
        Bounds.holds(0, "the LOW wind 0 to 6 and the HIGH one", () -> {
            for (int n = 0; n <= 6; n++) {
                SmokesApart it = taken("wind 0 " + n + " " + (6 - n) + ";", 1);
                due("low", it.wind(0, false), n);
                due("high", it.wind(0, true), 6 - n);
            }
            faulty("wind 0 7 0;", 3, 7);
            faulty("wind 0 0 7;", 3, 9);
            faulty("wind 0 -1 0;", 1, 7);
            faulty("wind 0 0 -1;", 1, 9);
            faulty("wind 0 0;", 2, 8);
            faulty("wind 0 0 0 0;", 2, 11);
        });
        Bounds.holds(0, "each less 3 the cells that smoke goes a QUARTER", () -> {
            for (int n = 0; n <= 6; n++) {
                SmokesApart low = Bounds.lit("chimney 20 0 9;layer 20;wind 0 " + n + " 3;", 0, 0);
                due("low " + n, low.puff(0, 0, 1, false), 17 + n);
                due("low " + n + ", twice", low.puff(0, 0, 2, false), 14 + 2 * n);
                SmokesApart high = Bounds.lit("chimney 20 0 9;layer 0;wind 0 3 " + n + ";", 0, 0);
                due("high " + n, high.puff(0, 0, 1, false), 17 + n);
            }
        });
        Bounds.holds(0, "the one told for the latest QUARTER not above that asked for blows", () -> {
            SmokesApart it = taken("wind 20 1 2;wind 10 4 5;wind 47 6 0;", 3);
            int[][] blows = {{0, 3, 3}, {9, 3, 3}, {10, 4, 5}, {11, 4, 5}, {19, 4, 5}, {20, 1, 2}, {46, 1, 2}, {47, 6, 0}};
            for (int[] b : blows) {
                due("low in " + b[0], it.wind(b[0], false), b[1]);
                due("high in " + b[0], it.wind(b[0], true), b[2]);
            }
        });
        Bounds.holds(0, "(of like ones the later told; without one both 3: none)", () -> {
            SmokesApart it = taken("wind 10 1 2;wind 10 4 5;wind 10 0 6;", 3);
            due("none in 9", it.wind(9, false), 3);
            due("none in 9, high", it.wind(9, true), 3);
            due("the last told in 10", it.wind(10, false), 0);
            due("the last told in 10, high", it.wind(10, true), 6);
            SmokesApart still = Bounds.lit("chimney 0 0 9;chimney 39 12 9;", 0, 0, 1, 0);
            for (int q = 0; q < 9; q++) {
                due("goes nowhere in " + q, still.puff(0, 0, q, false), 0);
                due("goes nowhere in " + q + ", high", still.puff(1, 0, q, false), 39);
            }
        });
        Bounds.holds(0, "blows (of like ones the later told; without one both 3: none); 12 at most", () -> {
            StringBuilder lines = new StringBuilder();
            for (int n = 1; n <= 12; n++) {
                lines.append("wind ").append(4 * n - 1).append(" ").append(n % 7).append(" 3;");
                SmokesApart it = taken(lines.toString(), n);
                due("so many", it.count(2), n);
                due("the last told", it.wind(47, false), n % 7);
            }
            faulty(lines + "wind 1 1 1;", 4, lines.length());
            String like = "wind 1 1 1;".repeat(12);
            due("twelve like ones", taken(like, 12).count(2), 12);
            faulty(like + "wind", 4, like.length());
        });
    }

    private static void settings() {
        Bounds.holds(0, "wind N N N | layer N | thick N | fine N.", () -> {
            for (String line : new String[] {"wind 1 1 1", "layer 1", "thick 1", "fine 1"}) {
                taken(line + ";", 1);
                faulty(line + " 1;", 2, line.length() + 1);
                faulty(line.substring(0, line.length() - 2) + ";", 2, line.length() - 2);
                faulty(line, 2, line.length());
                faulty(line + " from 1;", 2, line.length() + 1);
            }
            faulty("wind;", 2, 4);
            faulty("wind 1;", 2, 6);
        });
        Bounds.holds(0, "layer: 0 to 20 (6)", () -> {
            number("layer ", 0, 20, ";", 103);
            due("not told", taken("fine 1;", 1).count(3), 6);
        });
        Bounds.holds(0, "from which height on the HIGH wind blows", () -> {
            for (int layer = 0; layer <= 20; layer++) {
                SmokesApart it = Bounds.lit("chimney 10 12 9;chimney 10 4 9;layer " + layer + ";wind 0 2 4;", 0, 0, 1, 0);
                int x = 10, lower = 10;
                for (int q = 1; q <= 8; q++) {
                    x += 11 + q < layer ? -1 : 1;
                    lower += 3 + q < layer ? -1 : 1;
                    due("layer " + layer + " in " + q, it.puff(0, 0, q, false), x);
                    due("layer " + layer + " in " + q + ", from 4", it.puff(1, 0, q, false), lower);
                }
            }
        });
        Bounds.holds(0, "thick: 1 to 9 (2)", () -> {
            number("thick ", 1, 9, ";", 104);
            due("not told", taken("fine 1;", 1).count(4), 2);
        });
        Bounds.holds(0, "fine: 0 to 99 (5)", () -> {
            number("fine ", 0, 99, ";", 105);
            due("not told", taken("thick 1;", 1).count(5), 5);
        });
        Bounds.holds(0, "Later ones strike.", () -> {
            SmokesApart it = taken("layer 20;thick 9;fine 99;layer 0;thick 1;fine 0;", 6);
            due("layer", it.count(3), 0);
            due("thick", it.count(4), 1);
            due("fine", it.count(5), 0);
            due("the last of three", taken("fine 1;fine 99;fine 2;", 3).count(5), 2);
        });
    }

    private static void tokens() {
        Bounds.holds(0, "between them blanks (10, 32)", () -> {
            for (int b = 0; b < 256; b++) {
                String text = "fine 1 " + (char) b + ";";
                boolean letter = b >= 'a' && b <= 'z', digit = b >= '0' && b <= '9';
                if (b == 10 || b == 32) taken(text, 1);
                else if (b == ';') faulty(text, 2, 8);
                else faulty(text, letter || digit ? 2 : 1, 7);
            }
            taken("\nfine\n1\n;\n", 1);
            taken("  fine  1  ;  ", 1);
            taken("\n \n", 0);
        });
        Bounds.holds(0, "TOKENS, as long as they go on", () -> {
            faulty("finefine 1;", 2, 0);
            faulty("fin e 1;", 2, 0);
            faulty("chimney 1 1 1 fromto 5;", 2, 14);
            taken("fine1;fine2;", 2);
            taken("chimney 1 1 1to 5;", 1);
            due("12 is one number", taken("fine 12;", 1).count(5), 12);
            faulty("fine 1 2;", 2, 7);
        });
        Bounds.holds(0, "words (small letters)", () -> {
            faulty("a", 2, 0);
            faulty("z", 2, 0);
            faulty("`", 1, 0);
            faulty("{", 1, 0);
            faulty("A", 1, 0);
            faulty("Z", 1, 0);
            faulty("fineZ 1;", 1, 4);
            for (String line : new String[] {"chimney 1 1 1", "wind 1 1 1", "layer 1", "thick 1", "fine 1"}) {
                taken(line + ";", 1);
                for (int i = 0; i < line.indexOf(' '); i++) {
                    faulty(line.substring(0, i) + "z" + line.substring(i + 1) + ";", 2, 0);
                    faulty(line.substring(0, i) + line.substring(i + 1) + ";", 2, 0);
                }
            }
            for (String word : new String[] {"from", "to"})
                for (int i = 0; i < word.length(); i++)
                    faulty("chimney 1 1 1 " + word.substring(0, i) + "z" + word.substring(i + 1) + " 5;", 2, 14);
            faulty("fine` 1;", 1, 4);
        });
        Bounds.holds(0, "N (1 to 3 digits)", () -> {
            for (String n : new String[] {"5", "05", "005"}) due("fine " + n, taken("fine " + n + ";", 1).count(5), 5);
            faulty("fine 0005;", 1, 5);
            faulty("fine ;", 2, 5);
            faulty("/", 1, 0);
            faulty("0", 2, 0);
            faulty("9", 2, 0);
            faulty(":", 1, 0);
            faulty("<", 1, 0);
        });
    }

    private static void faults() {
        Bounds.holds(0, "FAULTS, the first along the text", () -> {
            faulty("fine 100 ?", 3, 5);
            faulty("fine ; ?", 2, 5);
            faulty("fine ? 100;", 1, 5);
            faulty("fine 1;fine 100;;", 3, 12);
            String ten = "chimney 1 1 1;".repeat(10);
            faulty(ten + "chimney 99 ?", 4, 140);
            faulty(ten + "fine 100;chimney", 3, 145);
        });
        Bounds.holds(0, "of one TOKEN the least kind", () -> {
            faulty("chimney 1 1 1 1 1 1 1 1 0;", 3, 24);
            faulty("chimney 1 1 1 1 1 1 1 1 1;", 4, 24);
            faulty("chimney 1 1 1 1 1 1 1 1 9;", 4, 24);
            faulty("chimney 1 1 1 1 1 1 1 1 10;", 3, 24);
            faulty("chimney 1 1 1 1 1 1 1 1 1000;", 1, 24);
            faulty("chimney 1 1 1 1 1 1 1 1 wind;", 2, 24);
            faulty("fine 1 999;", 2, 7);
            faulty("fine 1 1000;", 1, 7);
            faulty("1000", 1, 0);
            faulty("100", 2, 0);
        });
        Bounds.holds(0, "1 no TOKEN begins so (4 digits and more: at their first)", () -> {
            for (String digits : new String[] {"1000", "0001", "10000", "123456789012", "9".repeat(300)})
                faulty("fine " + digits + ";", 1, 5);
            faulty("fine 1\t;", 1, 6);
            faulty("fine \u00ff;", 1, 5);
            faulty("fine \u0080;", 1, 5);
            faulty("fine \u0000;", 1, 5);
        });
        Bounds.holds(0, "2 it can't stand there (the end: the text's length)", () -> {
            faulty("fine", 2, 4);
            faulty("fine ", 2, 5);
            faulty("fine 1\n\n", 2, 8);
            faulty("chimney 1 1 1 from", 2, 18);
            faulty("chimney 1 1 1 from 1 to", 2, 23);
            faulty("fine 1;wind 1 1 1", 2, 17);
            String full = "fine 1;".repeat(128) + "fine";
            faulty(full, 2, 900);
            faulty("smoke 1;", 2, 0);
            faulty("fine 1;to 1;", 2, 7);
        });
        Bounds.holds(0, "3 an N out of its bounds.", () -> {
            faulty("fine 100;", 3, 5);
            faulty("fine 999;", 3, 5);
            faulty("chimney 999 999 999 from 999 to 999;", 3, 8);
            taken("fine 99;", 1);
        });
        Bounds.holds(0, "4 the first TOKEN of an 11th chimney, a 13th wind; the 7th N of SMOKE.", () -> {
            String ten = "chimney 1 1 1;".repeat(10);
            taken(ten, 10);
            faulty(ten + "chimney", 4, 140);
            faulty(ten + "fine 1;\nchimney 1 1 1;", 4, 148);
            faulty(ten + "chimneys", 2, 140);
            String twelve = "wind 1 1 1;".repeat(12);
            taken(twelve, 12);
            faulty(twelve + "wind", 4, 132);
            faulty(twelve + "winds", 2, 132);
            taken(ten + twelve, 22);
            taken("chimney 1 1 1 2 3 4 5 6;", 1);
            faulty("chimney 1 1 1 2 3 4 5 6 7", 4, 24);
        });
    }

    // ---- promises

    private static void promise1() {
        Bounds.holds(1, "No CHIMNEYS.", () -> {
            SmokesApart it = new SmokesApart();
            int[] counts = {0, 0, 0, 6, 2, 5, 0, 0, 0};
            for (int i = 0; i < counts.length; i++) due("count " + i, it.count(i), counts[i]);
            due("fault", it.fault(0), 0);
            due("its place", it.fault(1), NONE);
            for (int c : new int[] {-1, 0, 9, 10}) {
                due("chimney " + c, it.chimney(c, 0), -2);
                due("light " + c, it.light(c, 0), -2);
                due("free " + c, it.free(c), -2);
                due("pays " + c, it.pays(c), -2);
            }
            for (int q = 0; q < 48; q++) {
                due("wind " + q, it.wind(q, q % 2 == 0), 3);
                due("puffs " + q, it.puffs(q), 0);
            }
            for (int row = 0; row < 4; row++) due("row " + row, it.judge(row, 0), -6);
            for (int i = 0; i < 2; i++) due("image " + i, it.restore(i), -5);
            due("pairs", it.pair(NONE), 0);
            due("blackest", it.blackest(), 0);
            due("sky", it.sky(), 0);
        });
    }

    private static void promise2() {
        Bounds.holds(2, "Twenty bytes come behind those on THE TAPE, the highest of each int first: how many it has.", () -> {
            SmokesApart it = new SmokesApart();
            due("the first twenty", it.feed(0x63686968, 0x20202020, 0x0a0a0a0a, 0x20202020, 0x20202077), 20);
            due("the next twenty", it.feed(0x696e6420, 0x31203220, 0x333b2020, 0x20202020, 0x2020203b), 40);
            due("as bytes", it.town(40), -32);
            due("chih can't stand there", it.fault(1), 0);
            it.feed(0x20202020, 0x20202020, 0x20202020, 0x20202020, 0x20202077);
            it.feed(0x696e6420, 0x31203220, 0x333b2020, 0x20202020, 0x2020203b);
            due("but for the last", it.town(39), 1);
            due("wind from byte 19 on", it.wind(1, false), 2);
            for (int i = 0; i < 20; i++) {
                int[] five = {0x20202020, 0x20202020, 0x20202020, 0x20202020, 0x20202020};
                five[i / 4] |= 0x80 << 24 - i % 4 * 8;
                due("a sign that wraps", it.feed(five[0], five[1], five[2], five[3], five[4]), 20);
                due("byte " + i, it.town(20), -31);
                due("its place", it.fault(1), i);
            }
            due("all bits", it.feed(-1, LEAST, GREATEST, 0, -2), 20);
        });
        Bounds.holds(2, "-5: it would have more than 900.", () -> {
            SmokesApart it = new SmokesApart();
            for (int n = 1; n <= 45; n++) due("feed " + n, it.feed(0x20202020, 0x20202020, 0x20202020, 0x20202020, 0x20202020), 20 * n);
            due("46", it.feed(0, 0, 0, 0, 0), -5);
            due("all there", it.count(7), 900);
            due("and as it was", it.town(900), 0);
            due("then again", it.feed(0, 0, 0, 0, 0), 20);
            Supplier<SmokesApart> full = () -> {
                SmokesApart one = Bounds.lively().get();
                for (int n = 0; n < 44; n++) one.feed(0x20202020, 0x20202020, 0x20202020, 0x20202020, 0x20202020);
                return one;
            };
            Bounds.refused("a full tape", full, -5, one -> one.feed(0x66696e65, 0x20373b20, 0x20202020, 0x20202020, 0x20202020));
        });
    }

    private static void promise3() {
        Bounds.holds(3, "The first n bytes of THE TAPE (which is empty then) are THE TOWN", () -> {
            int[][] taken = {{0, 0, 5}, {7, 1, 9}, {14, 2, 8}, {20, 2, 8}};
            for (int[] t : taken) {
                SmokesApart it = new SmokesApart();
                Check.feed(it, "fine 9;fine 8;");
                due("the first " + t[0], it.town(t[0]), t[1]);
                due("fine", it.count(5), t[2]);
                due("the tape is empty", it.count(7), 0);
                due("nothing there", it.town(1), -3);
                due("comes first now", it.feed(0x66696e65, 0x20373b20, 0x20202020, 0x20202020, 0x20202020), 20);
                due("by itself", it.town(7), 1);
                due("fine", it.count(5), 7);
            }
            SmokesApart it = new SmokesApart();
            Check.feed(it, "fine 9;fine 8;");
            due("a fault", it.town(6), -32);
            due("empty with a fault too", it.count(7), 0);
        });
        Bounds.holds(3, "none being lit", () -> {
            SmokesApart it = Bounds.lit("chimney 1 1 1;chimney 2 1 1;", 0, 0, 1, 23);
            Check.tell(it, "chimney 1 1 1;chimney 2 1 1;");
            due("how many", it.count(1), 0);
            due("the first", it.chimney(0, 5), NONE);
            due("the last", it.chimney(1, 5), NONE);
        });
        Bounds.holds(3, "are THE TOWN, none being lit", BoundsTownTest::townBehindTown);
        Bounds.holds(3, "how many LINES (all stays with a FAULT)", () -> {
            taken("", 0);
            taken("fine 1;", 1);
            taken("fine 1;".repeat(128), 128);
            for (String text : new String[] {"?", ";", "fine 100;", "wind 1 1 1;".repeat(13)}) {
                SmokesApart it = Bounds.lit(Bounds.LIVELY, 0, 3, 1, 4);
                Check.tell(it, "chimney 1 1 1;thick 9;layer 1;fine 1;" + text);
                int[] counts = {4, 2, 2, 2, 2, 7, 14, 0, 8};
                for (int i = 0; i < counts.length; i++) due("count " + i + " with " + shown(text), it.count(i), counts[i]);
                due("x", it.chimney(0, 0), 5);
                due("wind", it.wind(1, false), 4);
                due("lit", it.chimney(0, 5), 3);
                due("touches", it.touch(0, 1), 4);
            }
        });
        Bounds.holds(3, "-3: n is below 0 or above what there is (THE TAPE stays)", () -> {
            for (int n : new int[] {-1, 21, LEAST, GREATEST, 900, 901})
                Bounds.refused("n " + n, Bounds.lively(), -3, it -> it.town(n));
            Bounds.refused("n 1 of nothing", SmokesApart::new, -3, it -> it.town(1));
            Bounds.refused("n -1 of nothing", SmokesApart::new, -3, it -> it.town(-1));
            SmokesApart it = new SmokesApart();
            due("n 0 of nothing", it.town(0), 0);
            for (int i = 0; i < 45; i++) it.feed(0x20202020, 0x20202020, 0x20202020, 0x20202020, 0x20202020);
            due("n 901 of 900", it.town(901), -3);
            due("900 are there still", it.count(7), 900);
            due("n 900 of 900", it.town(900), 0);
        });
        Bounds.holds(3, "-30 less the FAULT.", () -> {
            faulty("?", 1, 0);
            faulty(";", 2, 0);
            faulty("fine 100;", 3, 5);
            faulty("wind 1 1 1;".repeat(13), 4, 132);
        });
    }

    private static final String[] TOWNS = {"", "chimney 5 0 2;", "chimney 5 0 2;".repeat(5), "chimney 5 0 2 to 1;".repeat(3),
        "chimney 5 0 4 4;chimney 6 1 3;chimney 5 0 1 from 2 to 9;wind 0 4 3;layer 2;fine 7;thick 1;",
        "chimney 5 0 9 9 9 9 9 9;".repeat(2) + "chimney 5 7 9 9;thick 1;wind 2 5 1;", "chimney 20 0 9;chimney 21 1 9;".repeat(4),
        "chimney 5 0 3 from 23;chimney 4 0 2 from 23;chimney 6 0 1;wind 0 2 2;", "chimney 5 0 2 from 23;"};

    /** An object that had another town before answers as a new one does. */
    private static void townBehindTown() {
        for (String before : TOWNS)
            for (String text : TOWNS) {
                SmokesApart it = new SmokesApart();
                Check.tell(it, before);
                answers(it);
                Check.tell(it, text);
                long[] got = answers(it);
                long[] want = answers(Check.town(text));
                for (int i = 0; i < want.length; i++) due("answer " + i + " of " + shown(text) + " behind " + shown(before), got[i], want[i]);
            }
    }

    /** What a town tells with its first, then its first two, then its last alone lit, and of sheets. */
    private static long[] answers(SmokesApart it) {
        int last = it.count(0) - 1;
        long[] all = new long[160];
        int n = 0;
        for (int round = 0; round < 4; round++) {
            for (int what : new int[] {0, 1, 10, 12, 14}) all[n++] = it.plan(what);
            for (int q : new int[] {0, 3, 23}) {
                all[n++] = it.most(q, 0);
                all[n++] = it.most(q, 1);
            }
            long[] more = {it.plans(), it.shut(), it.sky(), it.blackest(), it.soot(5), it.pair(0), it.pair(NONE), it.thickness(), it.higher(0),
                it.free(last), it.best(last, 3), it.worth(last, 3), it.gusts(9), it.steady(NONE), it.cheapest(last), it.count(6)};
            for (long m : more) all[n++] = m;
            for (int soot : new int[] {0, 1, 3, 6}) {
                Check.row(it, round, 1, 5, soot, 4, soot / 2);
                all[n++] = it.sheets(round);
                all[n++] = it.sure(round);
                all[n++] = it.sheet(round, 1, last);
            }
            if (round < 2) it.light(round, 23);
            if (round == 2) it.out(0);
            if (round == 2) it.out(1);
            if (round == 2) it.light(last, 23);
        }
        return all;
    }

    private static void promise4() {
        Bounds.holds(4, "Of the latest town() that was read", () -> {
            SmokesApart it = new SmokesApart();
            due("none was read", it.fault(0), 0);
            Check.tell(it, "fine 1; fine ;");
            it.town(-1);
            it.town(1);
            due("one that wasn't read", it.fault(0), 2);
            due("nor its place", it.fault(1), 13);
            Check.tell(it, "?");
            due("a later one", it.fault(0), 1);
            due("its place", it.fault(1), 0);
            it.image(0);
            it.restore(0);
            due("an image has none", it.fault(0), 1);
            due("the empty one", it.town(0), 0);
            due("its fault", it.fault(0), 0);
            due("no place", it.fault(1), NONE);
        });
        Bounds.holds(4, "what 0: its FAULT (0), 1: its place (NONE).", () -> {
            faulty("?", 1, 0);
            faulty(" ".repeat(899) + "?", 1, 899);
            faulty(" ".repeat(896) + "fine", 2, 900);
            taken("fine 1;", 1);
        });
        Bounds.holds(4, "NONE for others.", () -> {
            for (int what : new int[] {-1, 2, LEAST, GREATEST}) Bounds.asks("what " + what, Bounds.lively(), NONE, it -> it.fault(what));
        });
    }

    private static void promise5() {
        String six = "chimney 39 12 1 2 3 4 5 9 from 4 to 9;chimney 0 0 9 to 0;";
        Bounds.holds(5, "what 0: X, 1: HEIGHT, 2: from, 3: to, 4: QUARTERS of SMOKE", () -> {
            int[][] told = {{39, 12, 4, 9, 6}, {0, 0, 0, 0, 1}};
            for (int c = 0; c < 2; c++)
                for (int what = 0; what < 5; what++) {
                    int number = c, asked = what;
                    Bounds.asks("chimney " + c + " " + what, Bounds.busy(six), told[c][what], it -> it.chimney(number, asked));
                }
        });
        Bounds.holds(5, "5: in which it is lit (NONE)", () -> {
            SmokesApart it = Check.town("chimney 1 1 1;");
            due("not", it.chimney(0, 5), NONE);
            it.light(0, 0);
            due("in the first", it.chimney(0, 5), 0);
            it.out(0);
            due("not again", it.chimney(0, 5), NONE);
            it.light(0, 23);
            due("in the last", it.chimney(0, 5), 23);
        });
        Bounds.holds(5, "10 + k: its k-th SMOKE.", () -> {
            int[] smoke = {1, 2, 3, 4, 5, 9};
            SmokesApart it = Check.town(six);
            for (int k = 0; k < 6; k++) due("smoke " + k, it.chimney(0, 10 + k), smoke[k]);
            due("the only one", it.chimney(1, 10), 9);
        });
        Bounds.holds(5, "-2; -7: not so many.", () -> {
            for (int c : new int[] {-1, 2, 10, LEAST, GREATEST})
                for (int what : new int[] {0, 5, 10, 16, -1, 6})
                    Bounds.refused("chimney " + c + " " + what, Bounds.busy(six), -2, it -> it.chimney(c, what));
            for (int what : new int[] {-1, 6, 7, 8, 9, LEAST, -10}) Bounds.refused("what " + what, Bounds.busy(six), -2, it -> it.chimney(0, what));
            for (int what : new int[] {16, 17, 1000, GREATEST}) Bounds.refused("what " + what, Bounds.busy(six), -7, it -> it.chimney(0, what));
            Bounds.refused("the second of one", Bounds.busy(six), -7, it -> it.chimney(1, 11));
            SmokesApart ten = Check.town("chimney 7 1 1;".repeat(10));
            due("the tenth", ten.chimney(9, 0), 7);
            due("an eleventh", ten.chimney(10, 0), -2);
        });
    }

    private static void promise6() {
        Bounds.holds(6, "The wind of a QUARTER (0 to 47), LOW or HIGH, as told (0 to 6).", () -> {
            SmokesApart it = Check.town("wind 0 0 6;wind 47 6 0;");
            due("0 low", it.wind(0, false), 0);
            due("0 high", it.wind(0, true), 6);
            due("46 low", it.wind(46, false), 0);
            due("47 low", it.wind(47, false), 6);
            due("47 high", it.wind(47, true), 0);
        });
        Bounds.holds(6, "-3.", () -> {
            for (int q : new int[] {-1, 48, LEAST, GREATEST}) {
                Bounds.refused("low in " + q, Bounds.lively(), -3, it -> it.wind(q, false));
                Bounds.refused("high in " + q, Bounds.lively(), -3, it -> it.wind(q, true));
            }
        });
    }
}
