/** Promises 19 to 22: errands, heaved, worth, hire. */
public final class ErrandsTest {
    public static void main(String[] args) {
        mostPairs();
        firstOfSeveral();
        heaved();
        worths();
        hires();
        wrongNumbers();
        Check.finish();
    }

    private static void dueErrands(SeesawPairs x, int pairs, int... fellows) {
        Check.due("errands", x.errands(0, 0), pairs);
        for (int p = 0; p < fellows.length; p++) Check.due("errands of " + p, x.errands(0, 10 + p), fellows[p]);
    }

    private static void dueHeaved(SeesawPairs x, int pairs, int stones, int... fellows) {
        Check.due("heaved", x.heaved(0, 0), pairs);
        Check.due("heaved stones", x.heaved(0, 1), stones);
        for (int p = 0; p < fellows.length; p++) Check.due("heaved of " + p, x.heaved(0, 10 + p), fellows[p]);
    }

    /** 0 could go with 2 and 3, but 1 with 2 alone. */
    private static void mostPairs() {
        SeesawPairs x = Check.told("bridge 0 1 4;one plain 50 0 1;one plain 46 0 1;one plain 48 1 0;one plain 53 1 0;");
        dueErrands(x, 2, 3, 2, 1, 0);
        x.send(1, 0, 0);
        dueErrands(x, 1, 2, -4, 0, -4);
        x.send(0, 0, 0);
        dueErrands(x, 0, -4, -4, -4, -4);
    }

    private static void firstOfSeveral() {
        SeesawPairs x = Check.told("bridge 1 0 9;one plain 5 0 1;one plain 5 1 0;one plain 5 1 0;one plain 5 0 1;one plain 5 1 0;one exile 5 1 0;");
        dueErrands(x, 2, 1, 0, 3, 2, -4, -4);
        // goals on a third bank are no errands here
        x = Check.told("banks 3;bridge 0 1 9;one plain 5 0 2;one plain 5 1 0;one plain 5 0 1;");
        dueErrands(x, 1, -4, 2, 1);
    }

    private static void heaved() {
        // by no stones at all there is one pair; by one there are two
        SeesawPairs x = Check.told("stone 4;bridge 0 1 1;one plain 20 0 1;one plain 30 0 1;one plain 20 1 0;one plain 25 1 0;");
        dueErrands(x, 1, 2, -4, 0, -4);
        dueHeaved(x, 2, 1, 2, 3, 0, 1);
        // of two pairs the fewest stones come before the first
        x = Check.told("stone 4;bridge 0 1 1;one plain 20 0 1;one plain 24 0 1;one plain 24 1 0;one plain 20 1 0;");
        dueHeaved(x, 2, 0, 3, 2, 1, 0);
        // an exile is against it, with stones too
        x = Check.told("stone 4;bridge 0 1 1;one plain 20 0 1;one exile 24 1 0;");
        dueHeaved(x, 0, 0, -4, -4);
        // stones need not be there
        x = Check.told("stone 9;bridge 0 1 0;one carrier 20 0 1;one plain 47 1 0;");
        dueHeaved(x, 1, 3, 1, 0);
        Check.due("errands without stones", x.errands(0, 0), 0);
    }

    private static void worths() {
        SeesawPairs x = Check.told("bridge 0 1 4;one plain 50 0 1;one plain 46 0 1;one plain 48 1 0;one plain 53 1 0;one plain 52 0 1;");
        // any two of 0, 1, 4 are enough, but 2 and 3 are all there are on bank 1
        int[] due = {0, 0, 1, 1, 0};
        for (int p = 0; p < 5; p++) Check.due("worth of " + p, x.worth(0, p), due[p]);
    }

    private static void hires() {
        SeesawPairs x = Check.told("bridge 0 1 4;one plain 50 0 1;one plain 50 1 0;one stout 70 1 0;");
        Check.due("hire from bank 0", x.hire(0, 0, 0), 62);
        Check.due("hire from bank 0, then", x.hire(0, 0, 1), 2);
        Check.due("hire from bank 1 is no use", x.hire(0, 1, 0), 1);
        Check.due("hire from bank 1, then", x.hire(0, 1, 1), 1);
        x = Check.told("bridge 0 1 0;one exile 50 1 0;");
        Check.due("an exile does not come", x.hire(0, 0, 0), 1);
        Check.due("an exile does not come", x.hire(0, 0, 1), 0);
        x = Check.told("bridge 1 0 3;one child 99 0 1;one plain 1 0 1;one plain 99 0 1;one plain 99 0 1;one child 97 1 0;one child 97 1 0;");
        Check.due("the seventh", x.hire(0, 0, 0), 1);
        Check.due("the seventh, then", x.hire(0, 0, 1), 1);
        x = Check.told("bridge 1 0 0;one child 99 0 1;");
        Check.due("99", x.hire(0, 0, 0), 99);
        Check.due("nobody is changed", x.rule(2), 1);
    }

    private static void wrongNumbers() {
        SeesawPairs x = Check.told("bridge 0 1 4;one plain 50 0 1;one plain 50 1 0;");
        int[] wrong = {Integer.MIN_VALUE, -1, 2, 9, 12, Integer.MAX_VALUE};
        for (int what : wrong) {
            Check.due("errands what " + what, x.errands(0, what), -1);
            Check.due("heaved what " + what, x.heaved(0, what), -1);
            Check.due("worth " + what, x.worth(0, what), -1);
            Check.due("hire side " + what, x.hire(0, what, 0), -1);
            Check.due("hire what " + what, x.hire(0, 0, what), -1);
            Check.due("errands " + what, x.errands(what, 0), -1);
            Check.due("heaved " + what, x.heaved(what, 0), -1);
            Check.due("worth " + what, x.worth(what, 0), -1);
            Check.due("hire " + what, x.hire(what, 0, 0), -1);
        }
        Check.due("errands what 1", x.errands(0, 1), -1);
        Check.due("errands 1", x.errands(1, 0), -1);
    }
}
