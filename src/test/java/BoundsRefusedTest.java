import java.nio.charset.StandardCharsets;
import java.util.ArrayList;
import java.util.List;
import java.util.function.Consumer;
import java.util.function.ToIntFunction;

/** Of every promise: what is refused changes nothing, nor does what is but asked; and which refusal comes first. */
public final class BoundsRefusedTest {
    public static void main(String[] args) {
        ask();
        Sentences.finish(2, 38);
    }

    static void ask() {
        firstThatFits();
        promises2To9();
        promises10To14();
        promises15To18();
        promises19To25();
        promises26To31();
        promises32To38();
    }

    /** Something of all that an object can have; image 1 and sheet 3 have nothing. */
    private static SeesawPairs rich() {
        SeesawPairs x = Check.told(Check.EXAMPLE);
        Check.tell(x, "banks 9;");
        x.cross(0, 0, 3, 0, 0);
        x.keep(0);
        x.weigh(5, 46);
        x.play(2, 20);
        x.heap(2, 20);
        x.cross(0, 4, 2, 0, 2);
        x.sheet(0, 2, 6);
        int[] cells = {0, 3, 0, 0, 0, 3};
        for (int i = 0; i < cells.length; i++) x.lay(0, i, cells[i]);
        x.sheet(1, 0, 8);
        x.sheet(2, 1, 0);
        x.read(1, 1, 0, 1);
        Check.put(x, "stone 7;heap 3 6;".getBytes(StandardCharsets.ISO_8859_1));
        return x;
    }

    /** All that can be asked of an object, then all that it has besides; it is of no more use behind it. */
    private static List<Integer> all(SeesawPairs x) {
        List<Integer> answers = new ArrayList<>();
        looks(x, answers);
        for (int k = 0; k < 4; k++) {
            answers.add(x.lay(k, -1, 0));
            for (int lane = 0; lane < 3; lane++) {
                for (int f = 0; f < 6; f += 3) {
                    answers.add(x.read(k, lane, f, 1));
                    answers.add(x.torn());
                }
            }
        }
        looks(x, answers);
        for (int k = 0; k < 2; k++) {
            answers.add(x.back(k));
            looks(x, answers);
        }
        answers.add(x.text());
        looks(x, answers);
        return answers;
    }

    private static void looks(SeesawPairs x, List<Integer> answers) {
        for (int what = 0; what < 5; what++) answers.add(x.rule(what));
        for (int b = 0; b < 3; b++) answers.add(x.bridge(b, 2) * 16 + x.bridge(b, 0) * 4 + x.bridge(b, 1));
        for (int p = 0; p < 6; p++) answers.add(x.one(p, 1) * 100 + x.one(p, 0) * 16 + x.one(p, 2) * 4 + x.one(p, 3));
        for (int bank = 0; bank < 3; bank++) answers.add(x.stones(bank));
        for (int what = 0; what < 6; what++) answers.add(x.count(what));
        answers.add(x.fault());
        answers.add(x.torn());
        answers.add(x.judge());
        answers.add(x.late(1));
    }

    private static void changesNothing(String call, int due, ToIntFunction<SeesawPairs> answer) {
        changesNothing(call, due, x -> { }, answer);
    }

    /** A question that is answered: as nothing changes, it is answered alike by another object. */
    private static void onlyAsks(ToIntFunction<SeesawPairs> answer) {
        int due = answer.applyAsInt(rich());
        Check.due("asked, it is answered", due < -4 || due == -1 ? 0 : 1, 1);
        changesNothing("asked", due, answer);
    }

    private static void changesNothing(String call, int due, Consumer<SeesawPairs> before, ToIntFunction<SeesawPairs> answer) {
        SeesawPairs asked = rich();
        SeesawPairs other = rich();
        before.accept(asked);
        before.accept(other);
        Check.due(call, answer.applyAsInt(asked), due);
        List<Integer> changed = all(asked);
        List<Integer> left = all(other);
        int first = 0;
        while (first < left.size() && left.get(first).equals(changed.get(first))) first++;
        Check.due(call + ": what is asked behind it, up to", first, left.size());
    }

    private static void firstThatFits() {
        Sentences.holds(0, "the first that fits", () -> {
            SeesawPairs x = rich();
            Check.due("promise 16: BAD before NONE", x.cross(0, 0, 0, 0, 0), -1);
            x.heap(0, 20);
            x.heap(1, 20);
            Check.due("promise 16: NONE before FULL", x.cross(0, 0, 1, 1, 0), -4);
            Check.due("promise 17: BAD before STATE", x.balance(0, 0, 5, 3), -1);
            Check.due("promise 17: STATE before NONE", x.balance(0, 3, 1, 0), -2);
            Check.due("promise 18: BAD before STATE", x.fellows(3, 5), -1);
            Check.due("promise 23: BAD before NONE", x.plan(9), -1);
            for (int n = x.count(1); n < 8; n++) x.tell(0, 0, 1);
            Check.due("promise 26: BAD before FULL", x.tell(0, 1, 1), -1);
            Check.due("promise 26: FULL", x.tell(0, 0, 1), -3);
            Check.due("promise 30: BAD before STATE", x.fits(1, 2, 12), -1);
            Check.due("promise 30: BAD before NONE", x.fits(0, 1, 11), -1);
            Check.due("promise 31: BAD before STATE", new SeesawPairs().season(0, 101, 0), -1);
            Check.due("promise 33: BAD before STATE", x.back(2), -1);
            Check.due("promise 34: BAD before SIZE", x.sheet(4, 0, -1), -1);
            Check.due("promise 35: BAD before NULL", x.lay(4, 0, 0), -1);
            Check.due("promise 35: NULL before INDEX", x.lay(3, -1, 0), -11);
            Check.due("promise 36: BAD before all", x.read(3, 3, -1, 1), -1);
        });
        Sentences.holds(0, "what is refused changes nothing (but THE TAPE, as told)", () -> {
            SeesawPairs x = rich();
            Check.due("the tape has a text", x.count(3), 17);
            Check.due("it is refused", x.text(), -27);
            Check.due("the tape is empty", x.count(3), 0);
            SeesawPairs other = rich();
            other.end(0);
            Check.tell(other, "heap 0 1;#");
            Check.tell(x, "#");
            Check.due("all else is as it was", all(x).equals(all(other)) ? 1 : 0, 1);
        });
    }

    private static void promises2To9() {
        Sentences.holds(2, "int feed(long v)", () -> {
            Consumer<SeesawPairs> full = x -> {
                while (x.count(3) <= 312) x.feed(0x2020202020202020L);
            };
            changesNothing("FULL", -3, full, x -> x.feed(-1L));
        });
        Sentences.holds(3, "int end(int n)", () -> {
            changesNothing("BAD, too small", -1, x -> x.end(-1));
            changesNothing("BAD, too large", -1, x -> x.end(18));
        });
        Sentences.holds(4, "int text()", () -> {
            String[] texts = {"#", "z", "banks 4;stone 10;", "heap 0 1;heap 0", "bridge 0 1 1;".repeat(5), "banks 4;meet 0 0 1;"};
            for (int i = 0; i < texts.length; i++) {
                SeesawPairs x = rich();
                SeesawPairs other = rich();
                Check.tell(other, "#");
                Check.due("refused", Check.tell(x, texts[i]) < -9 ? 1 : 0, 1);
                Check.due("its fault", x.fault(), i + 1);
                Check.tell(x, "#");
                Check.due("all else is as it was", all(x).equals(all(other)) ? 1 : 0, 1);
            }
        });
        Sentences.holds(5, "int fault()", () -> onlyAsks(x -> x.fault()));
        Sentences.holds(6, "int rule(int what)", () -> {
            changesNothing("BAD, too small", -1, x -> x.rule(-1));
            changesNothing("BAD, too large", -1, x -> x.rule(5));
            onlyAsks(x -> x.rule(0));
        });
        Sentences.holds(7, "int bridge(int b, int what)", () -> {
            changesNothing("BAD b", -1, x -> x.bridge(3, 0));
            changesNothing("BAD what", -1, x -> x.bridge(0, 3));
            onlyAsks(x -> x.bridge(0, 2));
        });
        Sentences.holds(8, "int one(int p, int what)", () -> {
            changesNothing("BAD p", -1, x -> x.one(6, 0));
            changesNothing("BAD what", -1, x -> x.one(0, 4));
            onlyAsks(x -> x.one(0, 1));
        });
        Sentences.holds(9, "int stones(int bank)", () -> {
            changesNothing("BAD", -1, x -> x.stones(3));
            onlyAsks(x -> x.stones(0));
        });
    }

    private static void promises10To14() {
        Sentences.holds(10, "int heap(int bank, int v)", () -> {
            changesNothing("BAD bank", -1, x -> x.heap(3, 5));
            changesNothing("BAD v, too small", -1, x -> x.heap(0, -1));
            changesNothing("BAD v, too large", -1, x -> x.heap(0, 21));
        });
        Sentences.holds(11, "int play(int b, int v)", () -> {
            changesNothing("BAD b", -1, x -> x.play(3, 5));
            changesNothing("BAD v, too small", -1, x -> x.play(0, -1));
            changesNothing("BAD v, too large", -1, x -> x.play(0, 21));
        });
        Sentences.holds(12, "int weigh(int p, int v)", () -> {
            changesNothing("BAD p", -1, x -> x.weigh(6, 5));
            changesNothing("BAD v, too small", -1, x -> x.weigh(0, 0));
            changesNothing("BAD v, too large", -1, x -> x.weigh(0, 100));
        });
        Sentences.holds(13, "int send(int p, int bank, int goal)", () -> {
            changesNothing("BAD p", -1, x -> x.send(6, 2, 2));
            changesNothing("BAD bank", -1, x -> x.send(0, 3, 2));
            changesNothing("BAD goal", -1, x -> x.send(0, 2, 3));
        });
        Sentences.holds(14, "int feast(int bank, int v)", () -> {
            changesNothing("BAD bank", -1, x -> x.feast(3, 5));
            changesNothing("BAD v, too small", -1, x -> x.feast(1, -10));
            changesNothing("BAD v, too large", -1, x -> x.feast(1, 10));
        });
    }

    private static void promises15To18() {
        Sentences.holds(15, "int can(int b, int p, int q, int i, int j)", () -> {
            changesNothing("BAD", -1, x -> x.can(0, 0, 0, 0, 0));
            changesNothing("no pair", 0, x -> x.can(0, 0, 1, 0, 0));
            changesNothing("a pair", 1, x -> x.can(0, 3, 0, 0, 0));
        });
        Sentences.holds(16, "int cross(int b, int p, int q, int i, int j)", () -> {
            changesNothing("BAD b", -1, x -> x.cross(3, 3, 0, 0, 0));
            changesNothing("BAD, alike", -1, x -> x.cross(0, 0, 0, 0, 0));
            changesNothing("BAD i", -1, x -> x.cross(0, 3, 0, 4, 0));
            changesNothing("NONE, no pair", -4, x -> x.cross(0, 0, 3, 0, 0));
            changesNothing("NONE, too many stones", -4, x -> x.cross(0, 3, 0, 2, 0));
            changesNothing("FULL, of stones", -3, x -> {
                x.weigh(3, 44);
                x.heap(0, 20);
            }, x -> x.cross(0, 3, 0, 0, 1));
            Consumer<SeesawPairs> often = x -> {
                x.sheet(0, 0, 36);
                for (int i = 0; i < 12; i++) {
                    x.lay(0, 3 * i + 1, i % 2 == 0 ? 3 : 0);
                    x.lay(0, 3 * i + 2, i % 2 == 0 ? 0 : 3);
                }
                for (int left = 997; left > 0; left -= 12) x.read(0, 0, 0, Math.min(left, 12));
            };
            changesNothing("FULL, of crossings", -3, often, x -> x.cross(0, 0, 3, 0, 0));
        });
        Sentences.holds(17, "int balance(int b, int p, int q, int what)", () -> {
            changesNothing("BAD", -1, x -> x.balance(0, 0, 0, 0));
            changesNothing("STATE", -2, x -> x.balance(0, 0, 3, 0));
            changesNothing("NONE", -4, x -> x.weigh(0, 99), x -> x.balance(0, 3, 0, 0));
            onlyAsks(x -> x.balance(0, 3, 0, 0));
        });
        Sentences.holds(18, "int fellows(int b, int p)", () -> {
            changesNothing("BAD", -1, x -> x.fellows(3, 0));
            changesNothing("STATE", -2, x -> x.fellows(0, 5));
            onlyAsks(x -> x.fellows(0, 3));
        });
    }

    private static void promises19To25() {
        Sentences.holds(19, "int errands(int b, int what)", () -> {
            changesNothing("BAD", -1, x -> x.errands(3, 0));
            changesNothing("NONE", -4, x -> x.errands(0, 11));
            onlyAsks(x -> x.errands(0, 0));
        });
        Sentences.holds(20, "int heaved(int b, int what)", () -> {
            changesNothing("BAD", -1, x -> x.heaved(0, 2));
            changesNothing("NONE", -4, x -> x.heaved(0, 15));
            onlyAsks(x -> x.heaved(0, 0));
        });
        Sentences.holds(21, "int worth(int b, int p)", () -> {
            changesNothing("BAD", -1, x -> x.worth(0, 6));
            onlyAsks(x -> x.worth(0, 0));
        });
        Sentences.holds(22, "int hire(int b, int side, int what)", () -> {
            changesNothing("BAD", -1, x -> x.hire(0, 2, 0));
            onlyAsks(x -> x.hire(0, 0, 0));
        });
        Sentences.holds(23, "int plan(int what)", () -> {
            changesNothing("BAD", -1, x -> x.plan(1));
            changesNothing("NONE", -4, x -> x.plan(0));
        });
        Sentences.holds(24, "int reach(int p)", () -> {
            changesNothing("BAD", -1, x -> x.reach(6));
            onlyAsks(x -> x.reach(0));
        });
        Sentences.holds(25, "int ways()", () -> onlyAsks(x -> x.ways()));
    }

    private static void promises26To31() {
        Sentences.holds(26, "int tell(int b, int p, int q)", () -> {
            changesNothing("BAD b", -1, x -> x.tell(3, 0, 1));
            changesNothing("BAD, alike", -1, x -> x.tell(0, 1, 1));
            Consumer<SeesawPairs> full = x -> {
                while (x.count(1) < 8) x.tell(0, 0, 3);
            };
            changesNothing("FULL", -3, full, x -> x.tell(0, 3, 0));
        });
        Sentences.holds(27, "int forget(int n)", () -> {
            changesNothing("BAD, too small", -1, x -> x.forget(-1));
            changesNothing("BAD, too large", -1, x -> x.forget(5));
        });
        Sentences.holds(28, "int judge()", () -> onlyAsks(x -> x.judge()));
        Sentences.holds(29, "int late(int p)", () -> {
            changesNothing("BAD", -1, x -> x.late(6));
            onlyAsks(x -> x.late(1));
        });
        Sentences.holds(30, "int fits(int k, int n, int what)", () -> {
            changesNothing("BAD", -1, x -> x.fits(0, 5, 0));
            changesNothing("STATE", -2, x -> x.fits(1, 1, 0));
            changesNothing("NONE", -4, x -> x.weigh(4, 99), x -> x.fits(0, 1, 10));
            onlyAsks(x -> x.fits(0, 0, 0));
        });
        Sentences.holds(31, "int season(int seed, int n, int what)", () -> {
            changesNothing("BAD", -1, x -> x.season(1, 0, 0));
            onlyAsks(x -> x.season(-3, 100, 0));
        });
    }

    private static void promises32To38() {
        Sentences.holds(32, "int keep(int k)", () -> {
            changesNothing("BAD, too small", -1, x -> x.keep(-1));
            changesNothing("BAD, too large", -1, x -> x.keep(2));
        });
        Sentences.holds(33, "int back(int k)", () -> {
            changesNothing("BAD", -1, x -> x.back(2));
            changesNothing("STATE", -2, x -> x.back(1));
        });
        Sentences.holds(34, "int sheet(int k, int lane, int n)", () -> {
            changesNothing("BAD k", -1, x -> x.sheet(4, 0, 1));
            changesNothing("BAD lane", -1, x -> x.sheet(0, 3, 1));
            changesNothing("BAD n", -1, x -> x.sheet(0, 0, 41));
            changesNothing("SIZE", -14, x -> x.sheet(0, 0, -1));
            changesNothing("SIZE of nothing", -14, x -> x.sheet(3, 0, -1));
        });
        Sentences.holds(35, "int lay(int k, int i, int v)", () -> {
            changesNothing("BAD", -1, x -> x.lay(4, 0, 1));
            changesNothing("NULL", -11, x -> x.lay(3, 0, 1));
            changesNothing("INDEX, too small", -12, x -> x.lay(0, -1, 1));
            changesNothing("INDEX, too large", -12, x -> x.lay(0, 6, 1));
            changesNothing("INDEX of none", -12, x -> x.lay(2, 0, 1));
        });
        Sentences.holds(36, "int read(int k, int lane, int f, int n)", () -> {
            changesNothing("BAD k", -1, x -> x.read(4, 0, 0, 1));
            changesNothing("BAD lane", -1, x -> x.read(0, 3, 0, 1));
            changesNothing("BAD n", -1, x -> x.read(0, 2, 0, 14));
            changesNothing("the first is refused", -20, x -> x.read(0, 2, 3, 1));
            changesNothing("the second is refused", -21, x -> x.lay(0, 5, 1), x -> x.read(0, 2, 0, 2));
        });
        Sentences.holds(37, "int torn()", () -> onlyAsks(x -> x.torn()));
        Sentences.holds(38, "int count(int what)", () -> {
            changesNothing("BAD, too small", -1, x -> x.count(-1));
            changesNothing("BAD, too large", -1, x -> x.count(6));
            onlyAsks(x -> x.count(5));
        });
    }
}
