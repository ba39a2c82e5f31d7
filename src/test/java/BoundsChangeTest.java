/** Boundaries that promises 10 to 14 name: heap, play, weigh, send, feast. */
public final class BoundsChangeTest {
    public static void main(String[] args) {
        ask();
        Sentences.finish(10, 14);
    }

    static void ask() {
        promise10Heap();
        promise11Play();
        promise12Weigh();
        promise13Send();
        promise14Feast();
    }

    private static void promise10Heap() {
        Sentences.holds(10, "STONES of a BANK become v (0 to 20): what they were.", () -> {
            SeesawPairs x = Check.told("banks 4;heap 3 20;");
            Check.due("from 20 to 0", x.heap(3, 0), 20);
            Check.due("none", x.stones(3), 0);
            Check.due("from 0 to 20", x.heap(3, 20), 0);
            Check.due("twenty", x.stones(3), 20);
            Check.due("to the same", x.heap(3, 20), 20);
            Check.badOutside("heap v", 0, 20, v -> x.heap(3, v));
            Check.due("twenty still", x.stones(3), 20);
            Check.due("in all", x.count(5), 20);
        });
        Sentences.holds(10, "BAD.", () -> {
            for (int banks = 2; banks <= 4; banks++) {
                SeesawPairs x = Check.told("banks " + banks + ";");
                Check.bounds("heap bank", 0, banks - 1, bank -> x.heap(bank, 9));
                Check.due("on the first and the last", x.count(5), 18);
            }
        });
    }

    private static void promise11Play() {
        Sentences.holds(11, "PLAY of a BRIDGE becomes v: what it was.", () -> {
            SeesawPairs x = Check.told("bridge 0 1 20;bridge 1 0 1;");
            Check.due("from 20 to 0", x.play(0, 0), 20);
            Check.due("0", x.bridge(0, 2), 0);
            Check.due("from 0 to 20", x.play(0, 20), 0);
            Check.due("20", x.bridge(0, 2), 20);
            Check.due("the other one stays", x.bridge(1, 2), 1);
            Check.badOutside("play v", 0, 20, v -> x.play(0, v));
            Check.due("20 still", x.bridge(0, 2), 20);
        });
        Sentences.holds(11, "BAD.", () -> {
            SeesawPairs x = Check.told("bridge 0 1 20;bridge 1 0 1;");
            Check.bounds("play of two", 0, 1, b -> x.play(b, 5));
            SeesawPairs four = Check.told("bridge 0 1 20;".repeat(4));
            Check.bounds("play of four", 0, 3, b -> four.play(b, 5));
            SeesawPairs none = new SeesawPairs();
            Check.badOutside("play of none", 0, -1, b -> none.play(b, 5));
        });
    }

    private static void promise12Weigh() {
        Sentences.holds(12, "WEIGHT of a ONE becomes v: what it was.", () -> {
            SeesawPairs x = Check.told("one plain 99 0 1;one plain 50 0 1;");
            Check.due("from 99 to 1", x.weigh(0, 1), 99);
            Check.due("1", x.one(0, 1), 1);
            Check.due("from 1 to 99", x.weigh(0, 99), 1);
            Check.due("99", x.one(0, 1), 99);
            Check.due("the other one stays", x.one(1, 1), 50);
            Check.badOutside("weigh v", 1, 99, v -> x.weigh(0, v));
            Check.due("99 still", x.one(0, 1), 99);
        });
        Sentences.holds(12, "BAD.", () -> {
            SeesawPairs x = Check.told("one plain 99 0 1;one plain 50 0 1;");
            Check.bounds("weigh of two", 0, 1, p -> x.weigh(p, 7));
            SeesawPairs six = Check.told("one plain 99 0 1;".repeat(6));
            Check.bounds("weigh of six", 0, 5, p -> six.weigh(p, 7));
            SeesawPairs none = new SeesawPairs();
            Check.badOutside("weigh of none", 0, -1, p -> none.weigh(p, 7));
        });
    }

    private static void promise13Send() {
        Sentences.holds(13, "A ONE is on a BANK, with a GOAL: the BANK where he was.", () -> {
            SeesawPairs x = Check.told("banks 4;one plain 9 3 2;one exile 9 1 2;");
            Check.due("from the last to the first", x.send(0, 0, 3), 3);
            Check.due("bank 0", x.one(0, 2), 0);
            Check.due("goal 3", x.one(0, 3), 3);
            Check.due("from the first to the last", x.send(0, 3, 0), 0);
            Check.due("bank 3", x.one(0, 2), 3);
            Check.due("goal 0", x.one(0, 3), 0);
            Check.due("where he is", x.send(0, 3, 3), 3);
            Check.due("he is at his goal", x.count(0), 1);
            Check.due("an exile is set on bank 0, he does not come there", x.send(1, 0, 0), 1);
            Check.due("bank 0", x.one(1, 2), 0);
            Check.due("no crossing", x.rule(4), 0);
        });
        Sentences.holds(13, "BAD.", () -> {
            for (int banks = 2; banks <= 4; banks++) {
                SeesawPairs x = Check.told("banks " + banks + ";one plain 9 1 1;one plain 9 1 1;");
                Check.badOutside("send bank", 0, banks - 1, bank -> x.send(0, bank, 0));
                Check.badOutside("send goal", 0, banks - 1, goal -> x.send(0, 0, goal));
                Check.badOutside("send p", 0, 1, p -> x.send(p, 0, 0));
                for (int p = 0; p < 2; p++) {
                    Check.due("he is where he was", x.one(p, 2), 1);
                    Check.due("his goal is what it was", x.one(p, 3), 1);
                }
                Check.bounds("send to bank", 0, banks - 1, bank -> x.send(0, bank, 0));
                Check.bounds("send with goal", 0, banks - 1, goal -> x.send(1, 0, goal));
            }
            SeesawPairs six = Check.told("one plain 99 0 1;".repeat(6));
            Check.bounds("send of six", 0, 5, p -> six.send(p, 1, 1));
        });
    }

    private static void promise14Feast() {
        Sentences.holds(14, "(-9 to 9; 1 at least, 99 at most)", () -> {
            SeesawPairs x = Check.told("one plain 89 0 1;one plain 90 0 1;one plain 91 0 1;one plain 99 0 1;one plain 50 1 0;");
            Check.due("9 more", x.feast(0, 9), 4);
            int[] more = {98, 99, 99, 99, 50};
            for (int p = 0; p < 5; p++) Check.due("one " + p, x.one(p, 1), more[p]);
            for (int p = 0; p < 4; p++) x.weigh(p, new int[] {11, 10, 9, 1}[p]);
            Check.due("9 less", x.feast(0, -9), 4);
            int[] less = {2, 1, 1, 1, 50};
            for (int p = 0; p < 5; p++) Check.due("one " + p, x.one(p, 1), less[p]);
            Check.due("none more", x.feast(0, 0), 4);
            for (int p = 0; p < 5; p++) Check.due("one " + p, x.one(p, 1), less[p]);
            Check.badOutside("feast v", -9, 9, v -> x.feast(0, v));
            for (int p = 0; p < 5; p++) Check.due("one " + p, x.one(p, 1), less[p]);
        });
        Sentences.holds(14, "how many are there. BAD.", () -> {
            SeesawPairs x = Check.told("banks 3;" + "one plain 50 2 1;".repeat(6));
            Check.due("all", x.feast(2, 1), 6);
            Check.due("nobody", x.feast(0, 1), 0);
            Check.due("nobody", x.feast(1, 1), 0);
            Check.due("51", x.one(5, 1), 51);
            for (int banks = 2; banks <= 4; banks++) {
                SeesawPairs y = Check.told("banks " + banks + ";one plain 50 0 0;");
                Check.bounds("feast bank", 0, banks - 1, bank -> y.feast(bank, 1));
                Check.due("51", y.one(0, 1), 51);
            }
        });
    }
}
