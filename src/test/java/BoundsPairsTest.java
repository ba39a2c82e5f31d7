import java.util.function.IntUnaryOperator;

/** Boundaries that promises 15 to 18 and the words on a PAIR name: can, cross, balance, fellows. */
public final class BoundsPairsTest {
    private static final String[] KINDS = {"plain", "exile", "carrier", "child", "stout"};
    private static final String TWO = "bridge 0 1 9;one plain 5 0 1;one plain 5 1 0;";

    public static void main(String[] args) {
        ask();
        Sentences.finish(15, 18);
    }

    static void ask() {
        whoIsAPair();
        play();
        promise15Can();
        promise16Cross();
        promise16Full();
        promise17Balance();
        promise18Fellows();
    }

    /** A call of can() and its like: b, p, q and, where they are asked, i, j. */
    private interface Crossing {
        int answer(int b, int p, int q, int i, int j);
    }

    private static void whoIsAPair() {
        Sentences.holds(0, "p, on its first BANK, and q, on its second one", () -> {
            SeesawPairs x = Check.told("banks 3;bridge 1 2 9;one plain 5 1 1;one plain 5 2 1;one plain 5 0 1;one plain 5 1 1;");
            int[][] due = {{0, 1, 0, 0}, {0, 0, 0, 0}, {0, 0, 0, 0}, {0, 1, 0, 0}};
            for (int p = 0; p < 4; p++) {
                for (int q = 0; q < 4; q++) {
                    if (p != q) Check.due("can " + p + " " + q, x.can(0, p, q, 0, 0), due[p][q]);
                }
            }
        });
        Sentences.holds(0, "(no more than he carries, than there are on his BANK)", () -> {
            SeesawPairs x = Check.told("stone 1;heap 0 1;heap 1 3;bridge 0 1 20;one carrier 5 0 1;one carrier 5 1 0;");
            for (int i = 0; i <= 3; i++) Check.due("p with " + i + " of 1", x.can(0, 0, 1, i, 0), i <= 1 ? 1 : 0);
            for (int j = 0; j <= 3; j++) Check.due("q with " + j + " of 3", x.can(0, 0, 1, 0, j), 1);
            x.heap(0, 20);
            x.heap(1, 2);
            for (int i = 0; i <= 3; i++) Check.due("p with " + i + " of 20", x.can(0, 0, 1, i, 0), 1);
            for (int j = 0; j <= 3; j++) Check.due("q with " + j + " of 2", x.can(0, 0, 1, 0, j), j <= 2 ? 1 : 0);
            x.heap(1, 0);
            Check.due("q with 1 of 0", x.can(0, 0, 1, 0, 1), 0);
            Check.due("he takes none of those of p", x.can(0, 0, 1, 1, 1), 0);
        });
        Sentences.holds(0, "2 carrier: carries 3 STONES at most, all others 1", () -> {
            for (String kind : KINDS) {
                SeesawPairs x = Check.told("stone 1;heap 0 20;heap 1 20;bridge 0 1 20;one " + kind + " 5 0 1;one plain 5 1 1;"
                    + "one plain 5 0 0;one " + kind + " 5 1 1;");
                int most = kind.equals("carrier") ? 3 : 1;
                for (int i = 0; i <= 3; i++) Check.due(kind + " with " + i, x.can(0, 0, 1, i, 0), i <= most ? 1 : 0);
                // an exile may not come to bank 0 at all
                int last = kind.equals("exile") ? -1 : most;
                for (int j = 0; j <= 3; j++) Check.due(kind + " there with " + j, x.can(0, 2, 3, 0, j), j <= last ? 1 : 0);
            }
        });
        Sentences.holds(0, "1 exile: may not come to BANK 0", () -> {
            SeesawPairs x = Check.told("banks 3;bridge 0 1 9;bridge 1 0 9;bridge 1 2 9;one exile 5 1 1;one plain 5 0 0;one plain 5 2 2;");
            Check.due("as q", x.can(0, 1, 0, 0, 0), 0);
            Check.due("as p", x.can(1, 0, 1, 0, 0), 0);
            Check.due("to bank 2", x.can(2, 0, 2, 0, 0), 1);
            x.send(0, 0, 0);
            x.send(1, 1, 1);
            Check.due("he leaves bank 0 as p", x.can(0, 0, 1, 0, 0), 1);
            Check.due("he leaves bank 0 as q", x.can(1, 1, 0, 0, 0), 1);
        });
        Sentences.holds(0, "each is on the other BANK then, with his STONES there; one CROSSING more", () -> {
            SeesawPairs x = Check.told("banks 4;stone 1;heap 2 3;heap 3 3;bridge 2 3 9;one carrier 5 2 0;one carrier 5 3 1;");
            Check.due("all there are, both ways", x.cross(0, 0, 1, 3, 2), 1);
            Check.due("p", x.one(0, 2), 3);
            Check.due("q", x.one(1, 2), 2);
            int[] due = {0, 0, 2, 4};
            for (int bank = 0; bank < 4; bank++) Check.due("stones " + bank, x.stones(bank), due[bank]);
            Check.due("one more", x.rule(4), 1);
            Check.due("their goals stay", x.one(0, 3), 0);
            Check.due("their weights stay", x.one(0, 1), 5);
        });
    }

    /** The most by which both may differ, of all pairs of kinds. */
    private static int limit(int kind, int other, int play) {
        if (kind == 3 || other == 3) return play / 2;
        return kind == 4 || other == 4 ? 2 * play : play;
    }

    private static void differ(int kind, int other, int play) {
        SeesawPairs x = Check.told("bridge 1 0 " + play + ";one " + KINDS[kind] + " 50 1 1;one " + KINDS[other] + " 50 0 0;");
        int most = limit(kind, other, play);
        // an exile would come to bank 0
        int can = kind == 1 ? 0 : 1;
        for (int sign = -1; sign <= 1; sign += 2) {
            x.weigh(1, 50 + sign * most);
            Check.due(KINDS[kind] + " " + KINDS[other] + " by " + most + " of " + play, x.can(0, 0, 1, 0, 0), can);
            x.weigh(1, 50 + sign * (most + 1));
            Check.due(KINDS[kind] + " " + KINDS[other] + " by more than " + most + " of " + play, x.can(0, 0, 1, 0, 0), 0);
        }
    }

    private static void play() {
        Sentences.holds(0, "both ends, each with STONES, differ by no more than PLAY", () -> {
            for (int play : new int[] {0, 1, 20}) differ(0, 0, play);
            SeesawPairs x = Check.told("stone 9;heap 0 20;heap 1 20;bridge 0 1 3;one carrier 50 0 1;one carrier 50 1 0;");
            for (int i = 0; i <= 3; i++) {
                for (int j = 0; j <= 3; j++) {
                    for (int more = -40; more <= 40; more++) {
                        if (Math.abs(Math.abs(9 * i - 9 * j - more) - 3) > 1) continue;
                        x.weigh(1, 50 + more);
                        Check.due("with stones", x.can(0, 0, 1, i, j), Math.abs(9 * i - 9 * j - more) <= 3 ? 1 : 0);
                    }
                }
            }
            SeesawPairs far = Check.told("stone 9;heap 0 20;heap 1 20;bridge 0 1 20;one carrier 99 0 1;one carrier 1 1 0;");
            Check.due("as far as can be", far.can(0, 0, 1, 3, 0), 0);
            Check.due("as far as can be", far.can(0, 0, 1, 0, 3), 0);
        });
        Sentences.holds(0, "of a PAIR with a child half of it, divided down; else with a stout one twice", () -> {
            for (int kind = 0; kind < 5; kind++) {
                for (int other = 0; other < 5; other++) {
                    for (int play : new int[] {0, 1, 2, 3, 19, 20}) differ(kind, other, play);
                }
            }
        });
    }

    private static void badNumbers(String call, int bridges, int people, Crossing crossing) {
        Check.badOutside(call + " b", 0, bridges - 1, b -> crossing.answer(b, 0, 1, 0, 0));
        Check.badOutside(call + " p", 0, people - 1, p -> crossing.answer(0, p, 1, 0, 0));
        Check.badOutside(call + " q", 0, people - 1, q -> crossing.answer(0, 0, q, 0, 0));
        for (int p = 0; p < people; p++) Check.due(call + " alike " + p, crossing.answer(0, p, p, 0, 0), -1);
    }

    private static void badLoads(String call, Crossing crossing) {
        Check.badOutside(call + " i", 0, 3, i -> crossing.answer(0, 0, 1, i, 0));
        Check.badOutside(call + " j", 0, 3, j -> crossing.answer(0, 0, 1, 0, j));
    }

    private static void promise15Can() {
        Sentences.holds(15, "(1, 0: also where they are no PAIR)", () -> {
            SeesawPairs x = Check.told("banks 3;bridge 0 1 9;one plain 5 0 1;one plain 5 1 0;one plain 5 2 0;one plain 5 0 0;");
            Check.due("a pair that can", x.can(0, 0, 1, 0, 0), 1);
            Check.due("the other way round", x.can(0, 1, 0, 0, 0), 0);
            Check.due("on the same bank", x.can(0, 0, 3, 0, 0), 0);
            Check.due("not at the bridge", x.can(0, 0, 2, 0, 0), 0);
            Check.due("not at the bridge", x.can(0, 2, 1, 0, 0), 0);
            Check.due("with a stone that is not there", x.can(0, 0, 1, 1, 0), 0);
            Check.due("nobody went", x.rule(4), 0);
        });
        Sentences.holds(15, "BAD: no such BRIDGE, ONES, alike, i, j not 0 to 3.", () -> {
            SeesawPairs x = Check.told(TWO);
            badNumbers("can", 1, 2, x::can);
            badLoads("can", x::can);
            for (int i = 0; i <= 3; i++) Check.due("i " + i, x.can(0, 0, 1, i, 0), i == 0 ? 1 : 0);
            for (int j = 0; j <= 3; j++) Check.due("j " + j, x.can(0, 0, 1, 0, j), j == 0 ? 1 : 0);
            SeesawPairs most = Check.told("bridge 0 1 9;".repeat(4) + "one plain 5 0 1;".repeat(6));
            badNumbers("can of the most", 4, 6, most::can);
            Check.due("the last bridge", most.can(3, 0, 1, 0, 0), 0);
            Check.due("the last one", most.can(0, 5, 1, 0, 0), 0);
            Check.due("the last one", most.can(0, 0, 5, 0, 0), 0);
        });
    }

    private static void promise16Cross() {
        Sentences.holds(16, "They CROSS: CROSSINGS then.", () -> {
            SeesawPairs x = Check.told(TWO);
            Check.due("the first", x.cross(0, 0, 1, 0, 0), 1);
            Check.due("the second", x.cross(0, 1, 0, 0, 0), 2);
            Check.due("both are back", x.one(0, 2) * 10 + x.one(1, 2), 1);
        });
        Sentences.holds(16, "BAD;", () -> {
            SeesawPairs x = Check.told("heap 0 20;heap 1 20;" + TWO);
            badNumbers("cross", 1, 2, x::cross);
            badLoads("cross", x::cross);
            Check.due("nobody went", x.rule(4), 0);
            Check.due("no stone went", x.stones(0) * 100 + x.stones(1), 2020);
            Check.due("p is where he was", x.one(0, 2), 0);
        });
        Sentences.holds(16, "NONE: they can not", () -> {
            SeesawPairs x = Check.told("banks 3;heap 0 20;heap 1 20;bridge 0 1 3;one plain 5 0 1;one plain 9 1 0;one plain 5 2 1;one exile 5 1 1;");
            Check.due("too heavy", x.cross(0, 0, 1, 0, 0), -4);
            Check.due("the other way round", x.cross(0, 1, 0, 0, 0), -4);
            Check.due("not at the bridge", x.cross(0, 0, 2, 0, 0), -4);
            Check.due("an exile", x.cross(0, 0, 3, 0, 0), -4);
            Check.due("more than he carries", x.cross(0, 0, 1, 2, 0), -4);
            x.heap(0, 0);
            Check.due("more than there are", x.cross(0, 0, 1, 1, 0), -4);
            Check.due("nobody went", x.rule(4), 0);
            x.heap(0, 20);
            Check.due("also where there would be 21", x.cross(0, 0, 1, 0, 1), -4);
        });
    }

    /** Two who crossed so many times, by reading a sheet. */
    private static SeesawPairs after(String text, int crossings) {
        SeesawPairs x = Check.told(text);
        x.sheet(0, 0, 36);
        for (int i = 0; i < 12; i++) {
            x.lay(0, 3 * i + 1, i % 2);
            x.lay(0, 3 * i + 2, 1 - i % 2);
        }
        for (int left = crossings; left > 0; left -= 12) x.read(0, 0, 0, Math.min(left, 12));
        return x;
    }

    private static void promise16Full() {
        Sentences.holds(16, "FULL: it would be the 1000th", () -> {
            // an even number of crossings leaves them where they were
            SeesawPairs x = after("heap 0 20;heap 1 20;" + TWO, 998);
            Check.due("998", x.rule(4), 998);
            Check.due("the 999th", x.cross(0, 0, 1, 0, 0), 999);
            Check.due("the 1000th", x.cross(0, 1, 0, 0, 0), -3);
            Check.due("also with stones", x.cross(0, 1, 0, 1, 1), -3);
            Check.due("999 still", x.rule(4), 999);
            Check.due("p is where he was", x.one(0, 2), 1);
            Check.due("they can", x.can(0, 1, 0, 0, 0), 1);
            Check.due("who can not", x.cross(0, 0, 1, 0, 0), -4);
            Check.due("wrong", x.cross(1, 0, 1, 0, 0), -1);
            x.keep(0);
            Check.due("as an image", x.back(0), 999);
            Check.due("a day does not mind", x.tell(0, 1, 0), 1);
            Check.due("all can", x.judge(), -4);
            Check.due("a plan does not mind", x.plan(0), 0);
            Check.due("ways", x.ways(), 2);
            Check.due("rows do not mind", x.fits(0, 2, 0), 1);
        });
        Sentences.holds(16, "or a BANK would have more than 20 STONES", () -> {
            SeesawPairs x = Check.told("stone 1;heap 0 20;heap 1 19;bridge 0 1 9;one carrier 5 0 1;one carrier 5 1 0;");
            Check.due("21 on bank 0", x.cross(0, 0, 1, 0, 1), -3);
            Check.due("21 on bank 1", x.cross(0, 0, 1, 2, 0), -3);
            Check.due("21 on bank 1, 18 on bank 0", x.cross(0, 0, 1, 3, 1), -3);
            Check.due("21 on bank 0", x.cross(0, 0, 1, 2, 3), -3);
            Check.due("nobody went", x.rule(4), 0);
            Check.due("no stone went", x.stones(0) * 100 + x.stones(1), 2019);
            Check.due("20 on both, by 3 and 3", x.cross(0, 0, 1, 3, 3), 1);
            Check.due("19 on bank 0, 20 on bank 1", x.cross(0, 1, 0, 1, 0), 2);
            Check.due("stones", x.stones(0) * 100 + x.stones(1), 1920);
        });
    }

    private static IntUnaryOperator balanceOf(SeesawPairs x, int p, int q) {
        return what -> x.balance(0, p, q, what);
    }

    private static void balances(SeesawPairs x, int p, int q, int... due) {
        for (int what = 0; what < 3; what++) Check.due("balance " + p + " " + q + " " + what, x.balance(0, p, q, what), due[what]);
    }

    private static void promise17Balance() {
        Sentences.holds(0, "as few as can be (by no more than each carries, whatever there is on BANKS), of several the fewest of p", () -> {
            // no stones are on the banks
            SeesawPairs x = Check.told("stone 5;bridge 0 1 2;one carrier 50 0 1;one carrier 50 1 0;one plain 50 0 1;one plain 50 1 0;");
            int[] others = {50, 52, 53, 57, 58, 62, 63, 67};
            int[] stones = {0, 0, 1, 1, 2, 2, 3, 3};
            for (int i = 0; i < others.length; i++) {
                x.weigh(1, others[i]);
                balances(x, 0, 1, stones[i], stones[i], 0);
                x.weigh(1, 100 - others[i]);
                balances(x, 0, 1, stones[i], 0, stones[i]);
            }
            x.weigh(1, 68);
            balances(x, 0, 1, -4, -4, -4);
            x.weigh(1, 32);
            balances(x, 0, 1, -4, -4, -4);
            x.weigh(3, 57);
            balances(x, 2, 3, 1, 1, 0);
            x.weigh(3, 58);
            balances(x, 2, 3, -4, -4, -4);
            balances(x, 0, 3, 2, 2, 0);
        });
        Sentences.holds(17, "BAD (also alike)", () -> {
            SeesawPairs x = Check.told(TWO);
            for (int what = 0; what < 3; what++) {
                int of = what;
                badNumbers("balance", 1, 2, (b, p, q, i, j) -> x.balance(b, p, q, of));
            }
            Check.bounds("balance what", 0, 2, balanceOf(x, 0, 1));
            Check.badOutside("balance what of no pair", 0, 2, balanceOf(x, 1, 0));
        });
        Sentences.holds(17, "STATE: they are no PAIR, an exile would come to BANK 0", () -> {
            SeesawPairs x = Check.told("banks 3;bridge 0 1 9;bridge 1 0 9;one plain 5 0 1;one plain 5 1 0;one plain 5 2 0;one exile 5 1 1;one exile 5 0 1;");
            balances(x, 1, 0, -2, -2, -2);
            balances(x, 0, 2, -2, -2, -2);
            balances(x, 2, 1, -2, -2, -2);
            balances(x, 0, 4, -2, -2, -2);
            balances(x, 0, 3, -2, -2, -2);
            balances(x, 4, 3, -2, -2, -2);
            Check.due("an exile as p", x.balance(1, 3, 0, 0), -2);
            balances(x, 4, 1, 0, 0, 0);
            Check.due("an exile who leaves, as q", x.balance(1, 1, 4, 0), 0);
        });
        Sentences.holds(17, "NONE: by none", () -> {
            SeesawPairs x = Check.told("stone 9;heap 0 20;heap 1 20;bridge 0 1 0;one carrier 50 0 1;one carrier 51 1 0;");
            balances(x, 0, 1, -4, -4, -4);
            x.weigh(1, 77);
            balances(x, 0, 1, 3, 3, 0);
            x.weigh(1, 78);
            balances(x, 0, 1, -4, -4, -4);
            x.weigh(1, 23);
            balances(x, 0, 1, 3, 0, 3);
            x.weigh(1, 22);
            balances(x, 0, 1, -4, -4, -4);
        });
    }

    private static void promise18Fellows() {
        Sentences.holds(18, "With whom a ONE CAN cross a BRIDGE without STONES (bits).", () -> {
            SeesawPairs x = Check.told("heap 0 9;heap 1 9;bridge 0 1 3;one plain 5 0 1;" + "one plain 8 1 0;".repeat(5));
            Check.due("all others", x.fellows(0, 0), 62);
            for (int p = 1; p < 6; p++) Check.due("of the other bank " + p, x.fellows(0, p), 1);
            x.weigh(5, 9);
            Check.due("one is too heavy, without stones", x.fellows(0, 0), 30);
            Check.due("none", x.fellows(0, 5), 0);
            x.send(0, 1, 0);
            Check.due("nobody is on the other bank", x.fellows(0, 0), 0);
            SeesawPairs alone = Check.told("bridge 1 0 9;bridge 0 1 9;one plain 1 1 0;");
            Check.due("alone, from the first bank", alone.fellows(0, 0), 0);
            Check.due("alone, from the second bank", alone.fellows(1, 0), 0);
        });
        Sentences.holds(18, "BAD;", () -> {
            SeesawPairs x = Check.told("banks 3;" + TWO + "one plain 5 2 2;");
            Check.bounds("fellows b", 0, 0, b -> x.fellows(b, 0));
            Check.bounds("fellows p", 0, 2, p -> x.fellows(0, p));
            Check.badOutside("fellows b of one who is not there", 0, 0, b -> x.fellows(b, 2));
        });
        Sentences.holds(18, "STATE: he is not on a BANK of it.", () -> {
            SeesawPairs x = Check.told("banks 4;bridge 1 2 9;one plain 5 0 1;one plain 5 1 0;one plain 5 2 0;one plain 5 3 0;");
            int[] due = {-2, 4, 2, -2};
            for (int p = 0; p < 4; p++) Check.due("fellows " + p, x.fellows(0, p), due[p]);
        });
    }
}
