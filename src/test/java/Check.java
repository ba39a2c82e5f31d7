import java.nio.charset.StandardCharsets;
import java.util.function.IntUnaryOperator;

/** What the tests share: a count of wrong answers, and objects that were told a text. */
final class Check {
    static final String EXAMPLE = "banks 3;stone 4;heap 0 5;heap 1 9;bridge 0 1 5;bridge 1 2 8;bridge 2 0 3;"
        + "one plain 40 0 1;one exile 44 1 0;one carrier 52 1 0;one child 38 1 2;one stout 60 0 1;one plain 41 2 0;"
        + "meet 0 0 3;meet 1 0 5;meet 2 0 4;meet 0 4 2;";

    private static int wrong = 0;
    private static int asked = 0;

    private Check() {
    }

    static void due(String call, long got, long want) {
        asked++;
        if (got != want) {
            wrong++;
            System.out.println(call + " answered " + got + ", due is " + want);
        }
    }

    static int wrongAnswers() {
        return wrong;
    }

    static int askedAnswers() {
        return asked;
    }

    /** BAD outside of least to most, near and far, also where the lowest bits are those of a number inside; not BAD at both ends. */
    static void bounds(String call, int least, int most, IntUnaryOperator answer) {
        badOutside(call, least, most, answer);
        due(call + " is taken at " + least, answer.applyAsInt(least) == SeesawPairs.BAD ? 0 : 1, 1);
        due(call + " is taken at " + most, answer.applyAsInt(most) == SeesawPairs.BAD ? 0 : 1, 1);
    }

    static void badOutside(String call, int least, int most, IntUnaryOperator answer) {
        int low = Integer.MIN_VALUE;
        int high = Integer.MAX_VALUE;
        int[] values = {least - 1, most + 1, least - 2, most + 2, low, low + 1, low + 9, low + 10, low + least, high, high - 1,
            high - 9, high - 10, 256 + least, least - 256, 65536 + least, least - 65536, 1 << 30};
        for (int v : values) {
            if (v < least || v > most) due(call + " at " + v, answer.applyAsInt(v), SeesawPairs.BAD);
        }
    }

    static void finish() {
        System.out.println(asked + " answers, " + wrong + " not as due");
        if (wrong != 0) System.exit(1);
    }

    /** The bytes of a text come on the tape, whose length must be a multiple of 8 before. */
    static void put(SeesawPairs x, byte[] bytes) {
        int before = x.count(3);
        for (int i = 0; i < bytes.length; i += 8) {
            long v = 0;
            for (int j = i; j < i + 8; j++) v = v << 8 | (j < bytes.length ? bytes[j] & 255 : 0);
            if (x.feed(v) < 0) throw new IllegalStateException("the tape is full");
        }
        x.end(before + bytes.length);
    }

    static int tell(SeesawPairs x, String text) {
        x.end(0);
        put(x, text.getBytes(StandardCharsets.ISO_8859_1));
        return x.text();
    }

    static SeesawPairs told(String text) {
        SeesawPairs x = new SeesawPairs();
        int lines = tell(x, text);
        if (lines < 0) throw new IllegalStateException("refused at " + (-10 - lines) + ": " + text);
        return x;
    }

    /** A text that is refused: its fault and the place; what was told stays. */
    static void refused(String text, int fault, int place) {
        SeesawPairs x = told("banks 4;one plain 7 3 3;");
        x.keep(1);
        due("text() of " + text, tell(x, text), -10 - place);
        due("fault() of " + text, x.fault(), fault);
        due("rule(0) behind " + text, x.rule(0), 4);
        due("rule(2) behind " + text, x.rule(2), 1);
        due("one(0, 1) behind " + text, x.one(0, 1), 7);
        due("count(2) behind " + text, x.count(2), 1);
        due("count(3) behind " + text, x.count(3), 0);
    }
}
