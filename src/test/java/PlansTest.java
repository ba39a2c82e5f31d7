/** Promises 23 to 25: plan, reach, ways. */
public final class PlansTest {
    public static void main(String[] args) {
        oneStep();
        severalSteps();
        exiles();
        noPlan();
        manyWays();
        Check.finish();
    }

    private static void oneStep() {
        SeesawPairs x = Check.told("bridge 0 1 9;bridge 0 1 9;one plain 5 1 0;one plain 5 0 1;");
        Check.due("plan", x.plan(0), 1);
        Check.due("the first bridge", x.plan(10), 10);
        Check.due("no more", x.plan(11), -4);
        Check.due("far behind", x.plan(Integer.MAX_VALUE), -4);
        for (int what = 1; what < 10; what++) Check.due("plan " + what, x.plan(what), -1);
        Check.due("plan -1", x.plan(-1), -1);
        Check.due("plan least", x.plan(Integer.MIN_VALUE), -1);
        Check.due("nothing changed", x.one(0, 2), 1);
        Check.due("reach", x.reach(0), 3);
        Check.due("reach, no one", x.reach(2), -1);
        Check.due("reach, no one", x.reach(-1), -1);
        Check.due("ways", x.ways(), 2);
    }

    /** 0 must go by bank 1 to bank 2, with the help of those who stand there. */
    private static void severalSteps() {
        SeesawPairs x = Check.told("banks 3;bridge 0 1 2;bridge 1 2 2;one plain 10 0 2;one plain 11 1 1;one plain 12 2 0;");
        Check.due("plan", x.plan(0), 3);
        // 0 and 1, 0 and 2, then 1, who is on bank 0, with 2
        int[] due = {1, 102, 12, -4};
        for (int k = 0; k < 4; k++) Check.due("plan " + k, x.plan(10 + k), due[k]);
        for (int p = 0; p < 3; p++) Check.due("reach " + p, x.reach(p), 7);
        Check.due("ways", x.ways(), 6);
    }

    private static void exiles() {
        SeesawPairs x = Check.told("bridge 0 1 9;one exile 5 0 1;one plain 5 1 0;");
        Check.due("he goes", x.plan(0), 1);
        Check.due("ways", x.ways(), 2);
        x.cross(0, 0, 1, 0, 0);
        Check.due("he is there", x.plan(0), 0);
        Check.due("he does not come back", x.ways(), 1);
        Check.due("reach", x.reach(0), 2);
        Check.due("reach of the other one", x.reach(1), 1);
        x.send(0, 1, 0);
        Check.due("he would", x.plan(0), -4);
        Check.due("he would", x.plan(10), -4);
    }

    private static void noPlan() {
        SeesawPairs x = Check.told("bridge 0 1 9;one plain 5 0 1;");
        Check.due("alone", x.plan(0), -4);
        Check.due("alone", x.reach(0), 1);
        x = Check.told("bridge 0 1 9;one plain 5 0 1;one plain 15 1 0;");
        Check.due("too heavy", x.plan(0), -4);
        Check.due("too heavy", x.ways(), 1);
        x.weigh(0, 6);
        Check.due("heavier", x.plan(0), 1);
        x.play(0, 8);
        Check.due("less play", x.plan(0), -4);
    }

    /** 6! / (2! 2! 1! 1!) ways is what six people on four banks can have. */
    private static void manyWays() {
        SeesawPairs x = Check.told("banks 4;bridge 0 1 9;bridge 1 2 9;bridge 2 3 9;bridge 3 0 9;one plain 5 0 1;one plain 5 0 2;"
            + "one plain 5 1 3;one plain 5 1 0;one plain 5 2 0;one plain 5 3 1;");
        Check.due("ways", x.ways(), 180);
        for (int p = 0; p < 6; p++) Check.due("reach " + p, x.reach(p), 15);
        int length = x.plan(0);
        int[] steps = new int[length];
        for (int k = 0; k < length; k++) steps[k] = x.plan(10 + k);
        for (int step : steps) x.cross(step / 100, step / 10 % 10, step % 10, 0, 0);
        Check.due("all are where they would be", x.count(0), 6);
        Check.due("by so many", x.rule(4), length);
    }
}
