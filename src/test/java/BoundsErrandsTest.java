import java.util.function.IntBinaryOperator;

/** Boundaries that promises 19 to 22 name: errands, heaved, worth, hire. */
public final class BoundsErrandsTest {
    private static final String MANY = "bridge 0 1 9;" + "one plain 5 0 1;".repeat(3) + "one plain 5 1 0;".repeat(3);

    public static void main(String[] args) {
        ask();
        Sentences.finish(19, 22);
    }

    static void ask() {
        whichPairs();
        promise19Errands();
        promise20Heaved();
        promise21Worth();
        promise22Hire();
    }

    private static void errands(SeesawPairs x, int pairs, int... fellows) {
        Check.due("errands", x.errands(0, 0), pairs);
        for (int p = 0; p < fellows.length; p++) Check.due("errands of " + p, x.errands(0, 10 + p), fellows[p]);
    }

    private static void heaved(SeesawPairs x, int pairs, int stones, int... fellows) {
        Check.due("heaved", x.heaved(0, 0), pairs);
        Check.due("stones of heaved", x.heaved(0, 1), stones);
        for (int p = 0; p < fellows.length; p++) Check.due("heaved of " + p, x.heaved(0, 10 + p), fellows[p]);
    }

    /** BAD for a bridge, and for a what that is none of 0 to low nor 10 and a ONE. */
    private static void badNumbers(String call, int bridges, int low, int people, IntBinaryOperator answer) {
        for (int what = 0; what <= low; what++) {
            int of = what;
            Check.bounds(call + " b", 0, bridges - 1, b -> answer.applyAsInt(b, of));
        }
        Check.bounds(call + " b of a ONE", 0, bridges - 1, b -> answer.applyAsInt(b, 10));
        for (int what = low + 1; what < 10; what++) Check.due(call + " what " + what, answer.applyAsInt(0, what), -1);
        Check.badOutside(call + " what", 0, 9 + people, what -> answer.applyAsInt(0, what));
        Check.due(call + " of the last one", answer.applyAsInt(0, 9 + people) == -1 ? 0 : 1, 1);
    }

    private static void whichPairs() {
        Sentences.holds(0, "each would cross towards his GOAL (he is on the one BANK of it, the other one is his GOAL)", () -> {
            SeesawPairs x = Check.told("banks 3;bridge 0 1 9;one plain 5 0 1;one plain 5 1 0;");
            errands(x, 1, 1, 0);
            int[][] others = {{0, 0}, {0, 2}, {1, 1}, {1, 0}, {2, 1}};
            for (int[] sent : others) {
                x.send(0, sent[0], sent[1]);
                errands(x, 0, -4, -4);
            }
            x.send(0, 0, 1);
            int[][] their = {{1, 1}, {1, 2}, {0, 0}, {0, 1}, {2, 0}};
            for (int[] sent : their) {
                x.send(1, sent[0], sent[1]);
                errands(x, 0, -4, -4);
            }
        });
        Sentences.holds(0, "who CAN cross without STONES", () -> {
            SeesawPairs x = Check.told("heap 0 9;heap 1 9;bridge 0 1 3;one plain 5 0 1;one plain 8 1 0;");
            errands(x, 1, 1, 0);
            x.weigh(1, 9);
            errands(x, 0, -4, -4);
            errands(Check.told("bridge 0 1 3;one plain 5 0 1;one exile 5 1 0;"), 0, -4, -4);
            errands(Check.told("bridge 1 0 3;one exile 5 1 0;one plain 5 0 1;"), 0, -4, -4);
        });
        Sentences.holds(0, "as many as can be, of several the first by those from the first BANK, each by the other ones, none last", () -> {
            errands(Check.told(MANY), 3, 3, 4, 5, 0, 1, 2);
            // 0 with 3 alone, 1 with 3 and 4: so 0 comes before 1
            SeesawPairs x = Check.told("bridge 0 1 2;one plain 50 0 1;one plain 53 0 1;one plain 80 0 1;one plain 51 1 0;one plain 55 1 0;");
            errands(x, 2, 3, 4, -4, 0, 1);
            // all three go with 3 alone: the first one does
            x = Check.told("bridge 0 1 2;" + "one plain 50 0 1;".repeat(3) + "one plain 50 1 0;");
            errands(x, 1, 3, -4, -4, 0);
            // 0 leaves 3 to 1, as two are more than one
            x = Check.told("bridge 0 1 2;one plain 52 0 1;one plain 49 0 1;one plain 10 0 1;one plain 51 1 0;one plain 54 1 0;");
            errands(x, 2, 4, 3, -4, 1, 0);
        });
        Sentences.holds(0, "of as many PAIRS the fewest STONES, then the first", () -> {
            // the first ones would take two stones
            SeesawPairs x = Check.told("stone 4;bridge 0 1 1;one plain 20 0 1;one plain 24 0 1;one plain 24 1 0;one plain 20 1 0;");
            heaved(x, 2, 0, 3, 2, 1, 0);
            // as many stones in whichever way
            x = Check.told("stone 4;bridge 0 1 1;one plain 20 0 1;one plain 20 0 1;one plain 24 1 0;one plain 24 1 0;");
            heaved(x, 2, 2, 2, 3, 0, 1);
            // two by one stone each are more than one by none
            x = Check.told("stone 4;bridge 0 1 0;one plain 20 0 1;one plain 24 0 1;one plain 24 1 0;one plain 28 1 0;");
            heaved(x, 2, 2, 2, 3, 0, 1);
            // one pair: by no stone, though an earlier one would go with one
            x = Check.told("stone 4;bridge 0 1 0;one plain 20 0 1;one plain 24 0 1;one plain 24 1 0;");
            heaved(x, 1, 0, -4, 2, 1);
        });
    }

    private static void promise19Errands() {
        Sentences.holds(19, "PAIRS (what 0); 10 and p: with whom p crosses.", () -> {
            errands(Check.told("bridge 0 1 9;"), 0);
            errands(Check.told(MANY), 3, 3, 4, 5, 0, 1, 2);
            SeesawPairs x = Check.told("bridge 1 0 9;" + MANY.substring(13));
            errands(x, 3, 3, 4, 5, 0, 1, 2);
            Check.due("nobody went", x.rule(4), 0);
        });
        Sentences.holds(19, "BAD;", () -> {
            badNumbers("errands", 1, 0, 6, Check.told(MANY)::errands);
            badNumbers("errands of four", 4, 0, 1, Check.told("bridge 0 1 9;".repeat(4) + "one plain 5 0 1;")::errands);
            Check.due("nobody", Check.told("bridge 0 1 9;").errands(0, 10), -1);
        });
        Sentences.holds(19, "NONE (10 and p): with nobody.", () -> {
            SeesawPairs x = Check.told("bridge 0 1 0;one plain 5 0 1;one plain 6 1 0;one plain 5 0 0;");
            errands(x, 0, -4, -4, -4);
            x.weigh(1, 5);
            errands(x, 1, 1, 0, -4);
        });
    }

    private static void promise20Heaved() {
        Sentences.holds(20, "PAIRS (what 0), STONES of all (1); 10 and p: with whom p crosses.", () -> {
            heaved(Check.told("bridge 0 1 9;"), 0, 0);
            heaved(Check.told(MANY), 3, 0, 3, 4, 5, 0, 1, 2);
            // as many stones as there can be, and none on the banks
            SeesawPairs x = Check.told("stone 1;bridge 0 1 0;" + "one carrier 5 0 1;".repeat(3) + "one carrier 8 1 0;".repeat(3));
            heaved(x, 3, 9, 3, 4, 5, 0, 1, 2);
            x.weigh(5, 2);
            heaved(x, 3, 9, 3, 4, 5, 0, 1, 2);
            x.weigh(5, 9);
            heaved(x, 2, 6, 3, 4, -4, 0, 1, -4);
        });
        Sentences.holds(20, "BAD;", () -> {
            badNumbers("heaved", 1, 1, 6, Check.told(MANY)::heaved);
            badNumbers("heaved of four", 4, 1, 1, Check.told("bridge 0 1 9;".repeat(4) + "one plain 5 0 1;")::heaved);
            Check.due("nobody", Check.told("bridge 0 1 9;").heaved(0, 10), -1);
        });
        Sentences.holds(20, "NONE (10 and p): with nobody.", () -> {
            SeesawPairs x = Check.told("stone 4;bridge 0 1 0;one plain 5 0 1;one plain 13 1 0;one exile 5 1 0;one plain 5 1 1;");
            heaved(x, 0, 0, -4, -4, -4, -4);
            x.weigh(1, 9);
            heaved(x, 1, 1, 1, 0, -4, -4);
        });
    }

    private static void promise21Worth() {
        Sentences.holds(21, "How many PAIRS of ERRANDS at a BRIDGE there would be fewer without a ONE.", () -> {
            SeesawPairs x = Check.told("bridge 0 1 9;one plain 5 0 1;one plain 5 1 0;one plain 5 1 0;one plain 5 0 0;");
            int[] due = {1, 0, 0, 0};
            for (int p = 0; p < 4; p++) Check.due("worth " + p, x.worth(0, p), due[p]);
            x.send(2, 1, 1);
            Check.due("the only one now", x.worth(0, 1), 1);
            SeesawPairs many = Check.told(MANY);
            for (int p = 0; p < 6; p++) Check.due("worth of three " + p, many.worth(0, p), 1);
            Check.due("they are as they were", many.errands(0, 0), 3);
            // two could go with the only other one: without the one the other one goes, wherever they come in the order
            for (int alone = 0; alone < 3; alone++) {
                StringBuilder text = new StringBuilder("bridge 0 1 9;");
                for (int p = 0; p < 3; p++) text.append(p == alone ? "one plain 5 1 0;" : "one plain 5 0 1;");
                SeesawPairs three = Check.told(text.toString());
                SeesawPairs turned = Check.told(text.toString().replace("bridge 0 1", "bridge 1 0"));
                for (int p = 0; p < 3; p++) {
                    Check.due("worth of " + p + ", " + alone + " is alone", three.worth(0, p), p == alone ? 1 : 0);
                    Check.due("worth of " + p + ", " + alone + " is alone, on the first bank", turned.worth(0, p), p == alone ? 1 : 0);
                }
            }
            SeesawPairs heavier = Check.told("heap 0 9;heap 1 9;stone 4;bridge 0 1 0;one plain 5 0 1;one plain 9 1 0;");
            Check.due("by a stone there would be one pair", heavier.heaved(0, 0), 1);
            for (int p = 0; p < 2; p++) Check.due("but errands have no stones " + p, heavier.worth(0, p), 0);
        });
        Sentences.holds(21, "BAD.", () -> {
            SeesawPairs x = Check.told(MANY);
            Check.bounds("worth b", 0, 0, b -> x.worth(b, 0));
            Check.bounds("worth p", 0, 5, p -> x.worth(0, p));
            SeesawPairs four = Check.told("bridge 0 1 9;".repeat(4) + "one plain 5 0 1;");
            Check.bounds("worth b of four", 0, 3, b -> four.worth(b, 0));
            Check.bounds("worth p of one", 0, 0, p -> four.worth(0, p));
        });
    }

    private static void hire(SeesawPairs x, int side, int weight, int pairs) {
        Check.due("hire " + side, x.hire(0, side, 0), weight);
        Check.due("hire " + side + ", then", x.hire(0, side, 1), pairs);
    }

    private static void promise22Hire() {
        Sentences.holds(22, "The WEIGHT (1 to 99) for a new plain ONE", () -> {
            SeesawPairs x = Check.told("bridge 0 1 0;one plain 1 1 0;");
            hire(x, 0, 1, 1);
            x.weigh(0, 99);
            hire(x, 0, 99, 1);
            hire(x, 1, 1, 0);
            x = Check.told("bridge 0 1 5;one plain 99 1 0;one child 1 0 1;one stout 60 0 1;");
            hire(x, 0, 94, 1);
            // with a child 2, with a stout one 10
            hire(x, 1, 1, 1);
            x.weigh(1, 90);
            hire(x, 1, 50, 1);
            Check.due("nobody came", x.rule(2), 3);
        });
        Sentences.holds(22, "from its first BANK (side 0), its second one (1)", () -> {
            SeesawPairs x = Check.told("banks 3;bridge 2 0 3;one plain 50 2 0;one plain 70 0 2;");
            hire(x, 0, 67, 1);
            hire(x, 1, 47, 1);
            // an exile does not come to bank 0
            hire(Check.told("bridge 1 0 3;one exile 50 1 0;"), 1, 1, 0);
            hire(Check.told("bridge 0 1 3;one exile 50 0 1;"), 1, 47, 1);
            // with whom he would cross must have an errand himself
            for (String other : new String[] {"1 1", "1 2", "2 0", "0 0", "0 1"}) {
                hire(Check.told("banks 3;bridge 0 1 3;one plain 50 " + other + ";"), 0, 1, 0);
            }
            for (String other : new String[] {"0 0", "0 2", "2 1", "1 1", "1 0"}) {
                hire(Check.told("banks 3;bridge 0 1 3;one plain 50 " + other + ";"), 1, 1, 0);
            }
        });
        Sentences.holds(22, "by which there are most PAIRS of ERRANDS, of several the least (what 0), how many then (1).", () -> {
            hire(Check.told("bridge 0 1 9;"), 0, 1, 0);
            hire(Check.told("bridge 0 1 9;"), 1, 1, 0);
            // a seventh one, where there are six
            SeesawPairs x = Check.told("bridge 0 1 2;" + "one plain 50 0 1;".repeat(2) + "one plain 50 1 0;".repeat(4));
            hire(x, 0, 48, 3);
            hire(x, 1, 1, 2);
            // 50 goes with 51 alone: he who comes for 51 would leave 50 alone, so he must come for 60
            x = Check.told("bridge 0 1 1;one plain 50 0 1;one plain 51 1 0;one plain 60 1 0;");
            hire(x, 0, 59, 2);
            // by a stone 10 and 14 would go: but errands have none, so he comes for the one or the other
            x = Check.told("heap 0 9;heap 1 9;stone 4;bridge 0 1 0;one plain 10 0 1;one plain 14 1 0;");
            hire(x, 0, 14, 1);
            hire(x, 1, 10, 1);
        });
        Sentences.holds(22, "BAD.", () -> {
            SeesawPairs x = Check.told(MANY);
            for (int what = 0; what < 2; what++) {
                int of = what;
                Check.bounds("hire b", 0, 0, b -> x.hire(b, 0, of));
                Check.bounds("hire side", 0, 1, side -> x.hire(0, side, of));
                Check.bounds("hire what", 0, 1, w -> x.hire(0, of, w));
            }
            SeesawPairs four = Check.told("bridge 0 1 9;".repeat(4));
            Check.bounds("hire b of four", 0, 3, b -> four.hire(b, 1, 1));
        });
    }
}
