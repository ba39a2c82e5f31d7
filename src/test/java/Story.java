/** A gorge for ordinary runs: four banks, three bridges, one of each kind and another plain one. */
final class Story {
    static final String TEXT = "banks 4;stone 2;heap 1 7;heap 3 2;bridge 1 0 6;bridge 3 1 4;bridge 2 3 10;"
        + "one stout 70 1 0;one carrier 55 0 1;one exile 61 1 3;one plain 58 3 1;one child 60 2 2;one plain 63 0 0;"
        + "meet 1 3 2;meet 0 3 1;";

    /** Kind, weight, bank, goal. */
    static final int[][] PEOPLE = {{4, 70, 1, 0}, {2, 55, 0, 1}, {1, 61, 1, 3}, {0, 58, 3, 1}, {3, 60, 2, 2}, {0, 63, 0, 0}};

    /** First bank, second bank, play. */
    static final int[][] BRIDGES = {{1, 0, 6}, {3, 1, 4}, {2, 3, 10}};

    /** 1 goes with 3 alone, who must come for him and then leave bank 0 again, as 0 comes. */
    static final int[] PLAN = {132, 31, 3};

    private Story() {
    }

    static SeesawPairs told() {
        return Check.told(TEXT);
    }
}
