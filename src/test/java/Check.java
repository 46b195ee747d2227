import java.nio.ByteBuffer;
import java.nio.charset.StandardCharsets;
import java.util.Arrays;

/** What the tests share: a town told by its text, and answers held against those that are due. */
final class Check {
    private static int asked = 0;
    private static int wrong = 0;

    private Check() {
    }

    static void due(String call, long got, long want) {
        asked++;
        if (got != want) {
            wrong++;
            System.out.println(call + " answered " + got + ", due is " + want);
        }
    }

    static void end() {
        System.out.println(asked + " answers, " + wrong + " not as due");
        if (wrong != 0 || asked == 0) System.exit(1);
    }

    /** Feeds a text, filled up with blanks, and reads it: what town() answers. */
    static int tell(SmokesApart it, String text) {
        feed(it, text);
        return it.town(text.length());
    }

    static void feed(SmokesApart it, String text) {
        byte[] bytes = text.getBytes(StandardCharsets.ISO_8859_1);
        byte[] full = Arrays.copyOf(bytes, (bytes.length + 19) / 20 * 20);
        Arrays.fill(full, bytes.length, full.length, (byte) 32);
        for (int i = 0; i < full.length; i += 20) {
            ByteBuffer five = ByteBuffer.wrap(full, i, 20);
            it.feed(five.getInt(), five.getInt(), five.getInt(), five.getInt(), five.getInt());
        }
    }

    static SmokesApart town(String text) {
        SmokesApart it = new SmokesApart();
        int lines = tell(it, text);
        if (lines < 0) throw new IllegalStateException("a test's town is refused: " + lines + " " + text);
        return it;
    }

    static void row(SmokesApart it, int row, int sort, long... numbers) {
        it.numbers(row, sort, numbers.length);
        for (int i = 0; i < numbers.length; i++) it.write(row, i, numbers[i]);
    }

    /** Lightings as they stand in a row: chimney, quarter, chimney, quarter. */
    static void lightings(SmokesApart it, int row, int... told) {
        it.numbers(row, 1, told.length / 2);
        for (int i = 0; i < told.length / 2; i++) it.write(row, i, 32 * told[2 * i] + told[2 * i + 1]);
    }
}
