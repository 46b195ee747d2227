import java.io.IOException;
import java.nio.charset.StandardCharsets;
import java.nio.file.Files;
import java.nio.file.Path;
import java.util.ArrayList;
import java.util.List;
import java.util.function.Supplier;

/**
 * Tests of sentences that name a bound. Each is named by its promise and by the document's own words; words that
 * don't stand under that promise are told, but fail nothing: they are a name, not what the class does. Promise 0 is
 * what the document says ahead of promise 1.
 */
final class Bounds {
    static final int NONE = SmokesApart.NONE;
    static final int LEAST = Integer.MIN_VALUE;
    static final int GREATEST = Integer.MAX_VALUE;
    /** Numbers that are below, and numbers that are above whatever a call takes. */
    static final int[] FAR = {LEAST, LEAST + 1, -1000, 1000, GREATEST - 1, GREATEST};

    /** Two are lit and touch, two aren't lit. */
    static final String LIVELY = "chimney 5 0 4 4;chimney 6 1 3;chimney 20 0 1 from 2 to 9;chimney 30 2 9 from 1 to 22;"
        + "wind 0 4 3;wind 30 2 6;layer 2;fine 7;";

    private static final Path DOCUMENT = Path.of("../shared/DOC.md");
    private static final int PROMISES = 44;
    private static final int[] tests = new int[PROMISES + 1];
    private static String[] sections;
    private static String sentence = "";
    private static int asked = 0;

    private Bounds() {
    }

    /** A call on an object. */
    interface Call {
        long on(SmokesApart it);
    }

    // ---- tests by sentences

    static void holds(int promise, String words, Runnable test) {
        sentence = (promise == 0 ? "terms" : "promise " + promise) + ", \"" + words + "\": ";
        if (!stands(promise, words)) System.out.println(sentence + "doesn't stand in the document so");
        int before = asked;
        test.run();
        Check.due(sentence + "asks something", asked > before ? 1 : 0, 1);
        tests[promise]++;
    }

    static void due(String call, long got, long want) {
        asked++;
        Check.due(sentence + call, got, want);
    }

    /** Each promise from one to another must have been tested. */
    static void end(int first, int last) {
        int all = 0;
        for (int promise = first; promise <= last; promise++)
            Check.due("promise " + promise + " has a test of its own", tests[promise] > 0 ? 1 : 0, 1);
        for (int n : tests) all += n;
        System.out.println(all + " sentences that name a bound");
        Check.end();
    }

    private static boolean stands(int promise, String words) {
        if (sections == null) sections = sectionsOf(document());
        return sections.length != PROMISES + 1 || sections[promise].contains(words);
    }

    private static String document() {
        try {
            return Files.readString(DOCUMENT, StandardCharsets.UTF_8);
        } catch (IOException e) {
            System.out.println("there is no " + DOCUMENT + " to hold the words against");
            return "";
        }
    }

    private static String[] sectionsOf(String document) {
        return document.replace("`", "").replaceAll("\\s+", " ").split("## Promise [0-9]+: ");
    }

    // ---- calls that are refused

    /** A refused call: its code, and that all is told behind it as by a twin that never heard it. */
    static void refused(String call, Supplier<SmokesApart> made, long code, Call it) {
        SmokesApart one = made.get();
        due(call, it.on(one), code);
        same(call, one, made.get());
    }

    /** A call that only asks: its answer, twice, and that all is told behind it as by a twin that never heard it. */
    static void asks(String call, Supplier<SmokesApart> made, long want, Call it) {
        SmokesApart one = made.get();
        due(call, it.on(one), want);
        due(call + ", again", it.on(one), want);
        same(call, one, made.get());
    }

    static void same(String call, SmokesApart one, SmokesApart other) {
        List<Long> told = allTold(one);
        List<Long> untouched = allTold(other);
        due(call + " changes nothing: how much is told", told.size(), untouched.size());
        for (int i = 0; i < Math.min(told.size(), untouched.size()); i++)
            if (!told.get(i).equals(untouched.get(i)))
                due(call + " changes nothing: the " + i + "th thing told", told.get(i), untouched.get(i));
    }

    /** All that an object tells of itself; rows, images and the tape tell themselves only by being used up. */
    private static List<Long> allTold(SmokesApart it) {
        List<Long> told = new ArrayList<>();
        tellTown(it, told);
        for (int what = 0; what < 2; what++) told.add((long) it.fault(what));
        for (int q : new int[] {0, 23, 47}) {
            told.add((long) it.wind(q, false));
            told.add((long) it.wind(q, true));
        }
        int chimneys = it.count(0);
        for (int c = 0; c < chimneys; c++) {
            for (int what : new int[] {0, 1, 2, 3, 4, 10, 11, 15}) told.add((long) it.chimney(c, what));
            told.add((long) it.pays(c));
            told.add((long) it.free(c));
        }
        told.add((long) it.sky());
        told.add((long) it.blackest());
        for (int row = 0; row < 4; row++) tellRow(it, row, told);
        for (int i = 0; i < 2; i++) {
            told.add((long) it.restore(i));
            tellTown(it, told);
        }
        told.add((long) it.town(it.count(7)));
        tellTown(it, told);
        return told;
    }

    private static void tellTown(SmokesApart it, List<Long> told) {
        for (int what = 0; what < 9; what++) told.add((long) it.count(what));
        tellFires(it, told);
    }

    private static void tellFires(SmokesApart it, List<Long> told) {
        int chimneys = it.count(0);
        for (int c = 0; c < chimneys; c++) told.add((long) it.chimney(c, 5));
    }

    private static void tellRow(SmokesApart it, int row, List<Long> told) {
        for (int what = 0; what < 3; what++) told.add((long) it.judge(row, what));
        told.add((long) it.sheets(row));
        told.add((long) it.sure(row));
        told.add((long) it.perform(row));
        tellFires(it, told);
        for (int i = 0; i <= 40; i++) {
            long there = it.write(row, i, 0x7654321089abcdefL);
            told.add(there);
            if (there == -6 || there == -7) break;
        }
    }

    // ---- objects to ask

    /** A town, and fires: chimney, quarter, chimney, quarter. */
    static SmokesApart lit(String text, int... fires) {
        SmokesApart it = Check.town(text);
        light(it, fires);
        return it;
    }

    private static void light(SmokesApart it, int... fires) {
        for (int i = 0; i < fires.length; i += 2)
            if (it.light(fires[i], fires[i + 1]) != 0) throw new IllegalStateException("a test's fire is refused: " + fires[i]);
    }

    /** A town and fires in an object that has something of all: rows, an image, a fault, bytes on the tape. */
    static Supplier<SmokesApart> busy(String text, int... fires) {
        return () -> {
            SmokesApart it = lit("chimney 1 1 1;chimney 2 2 2;fine 3;wind 4 4 4;", 1, 23);
            it.image(0);
            Check.tell(it, text);
            light(it, fires);
            Check.row(it, 0, 1, 32 * 2 + 5, 32 * 3 + 6);
            Check.row(it, 1, 2, 5, 8, 7, 6);
            it.numbers(3, 3, 0);
            Check.tell(it, "fine 100;");
            Check.feed(it, "fine 9;fine 8;");
            return it;
        };
    }

    static Supplier<SmokesApart> lively() {
        return busy(LIVELY, 0, 3, 1, 4);
    }
}
