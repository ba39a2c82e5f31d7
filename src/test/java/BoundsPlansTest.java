/** Boundaries that promises 23 to 25 name: plan, reach, ways. */
public final class BoundsPlansTest {
    private static final String TWO = "bridge 0 1 9;one plain 5 0 1;one plain 5 1 0;";

    public static void main(String[] args) {
        ask();
        Sentences.finish(23, 25);
    }

    static void ask() {
        promise23Plan();
        promise24Reach();
        promise25Ways();
    }

    private static void plan(SeesawPairs x, int... steps) {
        Check.due("plan", x.plan(0), steps.length);
        for (int k = 0; k < steps.length; k++) Check.due("crossing " + k, x.plan(10 + k), steps[k]);
        Check.due("no more", x.plan(10 + steps.length), -4);
    }

    private static void promise23Plan() {
        Sentences.holds(0, "the fewest, of several the first by 100 times the BRIDGE, 10 times p, and q", () -> {
            plan(Check.told("bridge 0 1 9;".repeat(4) + "one plain 5 0 1;one plain 5 1 0;"), 1);
            // the fourth bridge and the last ones: as large as a crossing can be
            plan(Check.told("banks 4;bridge 0 1 9;bridge 0 1 9;bridge 0 1 9;bridge 2 3 9;" + "one plain 5 0 0;".repeat(4)
                + "one plain 5 3 2;one plain 5 2 3;"), 354);
            // either 0 with 2 or with 3 at first; 1 likewise: the first by p, then by q
            plan(Check.told("bridge 0 1 9;one plain 5 0 1;one plain 5 0 1;one plain 5 1 0;one plain 5 1 0;"), 2, 13);
            // one step by the second bridge, not two by the first one
            plan(Check.told("banks 3;bridge 0 1 9;bridge 0 2 9;one plain 5 0 2;one plain 5 2 0;one plain 5 1 1;"), 101);
        });
        Sentences.holds(0, "CROSSINGS of PAIRS without STONES, by which all are at their GOALS", () -> {
            SeesawPairs x = Check.told("heap 0 20;heap 1 20;bridge 0 1 2;one plain 50 0 1;one plain 52 1 0;");
            plan(x, 1);
            x.weigh(1, 53);
            Check.due("not with stones", x.plan(0), -4);
            x.weigh(1, 52);
            x.send(0, 0, 0);
            Check.due("not all would be there", x.plan(0), -4);
        });
        Sentences.holds(23, "CROSSINGS (what 0); 10 and k (0 on)", () -> {
            plan(new SeesawPairs());
            plan(Check.told("bridge 0 1 9;one plain 5 0 0;one plain 5 1 1;"));
            SeesawPairs x = Check.told(TWO);
            plan(x, 1);
            Check.due("nobody went", x.rule(4), 0);
            Check.due("nobody went", x.one(0, 2), 0);
        });
        Sentences.holds(23, "BAD;", () -> {
            SeesawPairs x = Check.told(TWO);
            int[] wrong = {Integer.MIN_VALUE, Integer.MIN_VALUE + 9, Integer.MIN_VALUE + 10, -10, -1, 1, 2, 5, 8, 9};
            for (int what : wrong) Check.due("plan " + what, x.plan(what), -1);
            SeesawPairs none = Check.told("bridge 0 1 9;one plain 5 0 1;");
            for (int what : wrong) Check.due("where there is none, plan " + what, none.plan(what), -1);
        });
        Sentences.holds(23, "NONE: there is none, not so many.", () -> {
            SeesawPairs none = Check.told("bridge 0 1 9;one plain 5 0 1;");
            int[] asked = {0, 10, 11, Integer.MAX_VALUE};
            for (int what : asked) Check.due("there is none, " + what, none.plan(what), -4);
            SeesawPairs x = Check.told(TWO);
            Check.due("crossing 0", x.plan(10), 1);
            int[] more = {11, 12, 19, 20, 100, Integer.MAX_VALUE - 1, Integer.MAX_VALUE};
            for (int what : more) Check.due("not so many, " + what, x.plan(what), -4);
            Check.due("an exile's goal is bank 0", Check.told("bridge 0 1 9;one plain 5 0 1;one exile 5 1 0;").plan(0), -4);
        });
    }

    private static void promise24Reach() {
        Sentences.holds(24, "(bits; his own, too)", () -> {
            SeesawPairs x = Check.told("banks 4;one plain 5 0 1;one plain 5 1 1;one plain 5 2 1;one plain 5 3 1;");
            for (int p = 0; p < 4; p++) Check.due("his own alone " + p, x.reach(p), 1 << p);
            x = Check.told("banks 4;bridge 0 1 9;bridge 1 2 9;bridge 2 3 9;one plain 5 0 0;one plain 5 1 0;one plain 5 2 0;one plain 5 3 0;");
            for (int p = 0; p < 4; p++) Check.due("all " + p, x.reach(p), 15);
            x.play(1, 0);
            x.weigh(2, 6);
            x.weigh(3, 6);
            int[] due = {3, 3, 12, 12};
            for (int p = 0; p < 4; p++) Check.due("on his side " + p, x.reach(p), due[p]);
        });
        Sentences.holds(24, "by CROSSINGS of anybody without STONES", () -> {
            // 0 comes to bank 1 when 1 and 2 have crossed
            SeesawPairs x = Check.told("banks 3;heap 0 9;heap 1 9;heap 2 9;bridge 0 1 5;bridge 1 2 5;one plain 10 0 0;one plain 18 1 1;one plain 15 2 2;");
            int[] due = {3, 6, 7};
            for (int p = 0; p < 3; p++) Check.due("reach " + p, x.reach(p), due[p]);
            x.weigh(2, 24);
            for (int p = 0; p < 3; p++) Check.due("with stones alone " + p, x.reach(p), 1 << p);
            Check.due("nobody went", x.rule(4), 0);
        });
        Sentences.holds(24, "BAD.", () -> {
            Check.bounds("reach of two", 0, 1, Check.told(TWO)::reach);
            Check.bounds("reach of six", 0, 5, Check.told("one plain 5 0 1;".repeat(6))::reach);
            Check.badOutside("reach of nobody", 0, -1, new SeesawPairs()::reach);
        });
    }

    private static void promise25Ways() {
        Sentences.holds(25, "(as they stand, too)", () -> {
            Check.due("nobody", new SeesawPairs().ways(), 1);
            Check.due("no bridges", Check.told("one plain 5 0 1;one plain 5 1 0;").ways(), 1);
            Check.due("alone", Check.told("bridge 0 1 9;one plain 5 0 1;").ways(), 1);
            Check.due("two", Check.told(TWO).ways(), 2);
            Check.due("three and three", Check.told("bridge 0 1 9;" + "one plain 5 0 1;".repeat(3) + "one plain 5 1 0;".repeat(3)).ways(), 20);
            // 6! / (2! 2!) is as many as there can be
            SeesawPairs x = Check.told("banks 4;bridge 0 1 9;bridge 1 2 9;bridge 2 3 9;one plain 5 0 0;one plain 5 0 0;one plain 5 1 0;"
                + "one plain 5 1 0;one plain 5 2 0;one plain 5 3 0;");
            Check.due("as many as there can be", x.ways(), 180);
            Check.due("then fewer", Check.tell(x, TWO), 3);
            Check.due("two", x.ways(), 2);
        });
        Sentences.holds(25, "by such CROSSINGS", () -> {
            Check.due("an exile comes back no more", Check.told("bridge 0 1 9;one exile 5 0 1;one plain 5 1 0;").ways(), 2);
            Check.due("he does not come", Check.told("bridge 0 1 9;one plain 5 0 1;one exile 5 1 0;").ways(), 1);
            Check.due("without stones", Check.told("heap 0 9;heap 1 9;bridge 0 1 2;one plain 5 0 1;one plain 8 1 0;").ways(), 1);
        });
    }
}
