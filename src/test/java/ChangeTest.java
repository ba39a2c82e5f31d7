/** Promises 10 to 14: heap, play, weigh, send, feast. */
public final class ChangeTest {
    public static void main(String[] args) {
        SeesawPairs x = Check.told(Check.EXAMPLE);
        heapAndPlay(x);
        weighAndSend(x);
        feasts(Check.told(Check.EXAMPLE));
        Check.finish();
    }

    private static void heapAndPlay(SeesawPairs x) {
        Check.due("heap(1, 20)", x.heap(1, 20), 9);
        Check.due("heap(1, 0)", x.heap(1, 0), 20);
        Check.due("heap(1, 21)", x.heap(1, 21), -1);
        Check.due("heap(1, -1)", x.heap(1, -1), -1);
        Check.due("heap(3, 1)", x.heap(3, 1), -1);
        Check.due("heap(-1, 1)", x.heap(-1, 1), -1);
        Check.due("stones(1)", x.stones(1), 0);
        Check.due("play(2, 20)", x.play(2, 20), 3);
        Check.due("play(2, 21)", x.play(2, 21), -1);
        Check.due("play(2, -1)", x.play(2, -1), -1);
        Check.due("play(3, 0)", x.play(3, 0), -1);
        Check.due("play(2, 0)", x.play(2, 0), 20);
        Check.due("bridge(2, 2)", x.bridge(2, 2), 0);
    }

    private static void weighAndSend(SeesawPairs x) {
        Check.due("weigh(5, 99)", x.weigh(5, 99), 41);
        Check.due("weigh(5, 100)", x.weigh(5, 100), -1);
        Check.due("weigh(5, 0)", x.weigh(5, 0), -1);
        Check.due("weigh(6, 1)", x.weigh(6, 1), -1);
        Check.due("weigh(5, 1)", x.weigh(5, 1), 99);
        Check.due("one(5, 1)", x.one(5, 1), 1);
        Check.due("send(5, 1, 2)", x.send(5, 1, 2), 2);
        Check.due("one(5, 2)", x.one(5, 2), 1);
        Check.due("one(5, 3)", x.one(5, 3), 2);
        Check.due("send(5, 3, 0)", x.send(5, 3, 0), -1);
        Check.due("send(5, 0, 3)", x.send(5, 0, 3), -1);
        Check.due("send(5, -1, 0)", x.send(5, -1, 0), -1);
        Check.due("send(5, 0, -1)", x.send(5, 0, -1), -1);
        Check.due("send(6, 0, 0)", x.send(6, 0, 0), -1);
        Check.due("one(5, 2)", x.one(5, 2), 1);
        Check.due("an exile is sent to bank 0", x.send(1, 0, 0), 1);
        Check.due("no crossing", x.rule(4), 0);
    }

    private static void feasts(SeesawPairs x) {
        x.weigh(1, 95);
        x.weigh(2, 4);
        Check.due("feast(1, 9)", x.feast(1, 9), 3);
        Check.due("99 at most", x.one(1, 1), 99);
        Check.due("4 and 9", x.one(2, 1), 13);
        Check.due("38 and 9", x.one(3, 1), 47);
        Check.due("another bank", x.one(0, 1), 40);
        x.weigh(2, 5);
        Check.due("feast(1, -9)", x.feast(1, -9), 3);
        Check.due("1 at least", x.one(2, 1), 1);
        Check.due("99 less 9", x.one(1, 1), 90);
        Check.due("feast(1, 0)", x.feast(1, 0), 3);
        Check.due("feast(1, 10)", x.feast(1, 10), -1);
        Check.due("feast(1, -10)", x.feast(1, -10), -1);
        Check.due("feast(3, 1)", x.feast(3, 1), -1);
        Check.due("feast(-1, 1)", x.feast(-1, 1), -1);
        x.send(5, 0, 0);
        Check.due("nobody there", x.feast(2, 5), 0);
    }
}
