/** Promises 15 to 18: can, cross, balance, fellows. */
public final class PairsTest {
    public static void main(String[] args) {
        edgesOfPlay();
        exiles();
        loads();
        wrongNumbers();
        full();
        balances();
        fellows();
        Check.finish();
    }

    /** p weighs 50 on bank 0; q so that they just can, and just can not. */
    private static void edge(String p, String q, int play, int limit) {
        SeesawPairs x = Check.told("bridge 0 1 " + play + ";one " + p + " 50 0 1;one " + q + " 50 1 0;");
        for (int sign = -1; sign <= 1; sign += 2) {
            x.weigh(1, 50 + sign * limit);
            Check.due(p + " " + q + " at " + limit, x.can(0, 0, 1, 0, 0), 1);
            x.weigh(1, 50 + sign * (limit + 1));
            Check.due(p + " " + q + " above " + limit, x.can(0, 0, 1, 0, 0), 0);
        }
    }

    private static void edgesOfPlay() {
        edge("plain", "plain", 7, 7);
        edge("plain", "child", 7, 3);
        edge("child", "carrier", 7, 3);
        edge("stout", "child", 7, 3);
        edge("child", "stout", 7, 3);
        edge("stout", "plain", 7, 14);
        edge("exile", "stout", 0, 0);
        edge("stout", "stout", 20, 40);
    }

    private static void exiles() {
        SeesawPairs x = Check.told("banks 3;bridge 0 1 9;bridge 1 2 9;bridge 1 0 9;one exile 5 0 1;one exile 5 1 0;one plain 5 0 1;one plain 5 2 1;");
        Check.due("an exile leaves bank 0 as a plain one comes", x.can(2, 1, 0, 0, 0), 0);
        Check.due("an exile comes to bank 0", x.can(0, 2, 1, 0, 0), 0);
        Check.due("an exile comes elsewhere", x.can(1, 1, 3, 0, 0), 1);
        Check.due("cross elsewhere", x.cross(1, 1, 3, 0, 0), 1);
        Check.due("an exile leaves", x.can(0, 0, 3, 0, 0), 1);
        Check.due("cross", x.cross(0, 0, 3, 0, 0), 2);
        Check.due("he does not come back", x.can(0, 3, 0, 0, 0), 0);
        Check.due("by another bridge", x.can(2, 0, 3, 0, 0), 0);
    }

    private static void loads() {
        SeesawPairs x = Check.told("stone 2;heap 0 2;heap 1 20;bridge 0 1 0;one carrier 10 0 1;one carrier 10 1 0;one plain 12 1 0;one plain 14 1 0;");
        Check.due("1 and 1", x.can(0, 0, 1, 1, 1), 1);
        Check.due("1 and 2", x.can(0, 0, 1, 1, 2), 0);
        Check.due("3 and 3, but 2 are there", x.can(0, 0, 1, 3, 3), 0);
        Check.due("12 and 12", x.can(0, 0, 2, 1, 0), 1);
        Check.due("a plain one carries no 2", x.can(0, 0, 2, 3, 2), 0);
        Check.due("2 and 1 more", x.can(0, 0, 2, 2, 1), 1);
        Check.due("16 and 16", x.can(0, 0, 3, 3, 1), 0);
        x.heap(0, 3);
        Check.due("16 and 16, with 3", x.can(0, 0, 3, 3, 1), 1);
        Check.due("cross", x.cross(0, 0, 3, 3, 1), -3);
        x.heap(1, 18);
        Check.due("cross", x.cross(0, 0, 3, 3, 1), 1);
        Check.due("stones(0)", x.stones(0), 1);
        Check.due("stones(1)", x.stones(1), 20);
        Check.due("one(0, 2)", x.one(0, 2), 1);
        Check.due("one(3, 2)", x.one(3, 2), 0);
        Check.due("in all", x.count(5), 21);
        Check.due("cross again", x.cross(0, 0, 3, 0, 0), -4);
    }

    private static void wrongNumbers() {
        SeesawPairs x = Check.told(Check.EXAMPLE);
        int[][] calls = {{-1, 0, 3, 0, 0}, {3, 0, 3, 0, 0}, {0, -1, 3, 0, 0}, {0, 6, 3, 0, 0}, {0, 0, -1, 0, 0},
            {0, 0, 6, 0, 0}, {0, 0, 0, 0, 0}, {0, 0, 3, -1, 0}, {0, 0, 3, 4, 0}, {0, 0, 3, 0, -1}, {0, 0, 3, 0, 4},
            {Integer.MAX_VALUE, 0, 3, 0, 0}, {0, Integer.MIN_VALUE, 3, 0, 0}};
        for (int[] c : calls) {
            Check.due("can, wrong", x.can(c[0], c[1], c[2], c[3], c[4]), -1);
            Check.due("cross, wrong", x.cross(c[0], c[1], c[2], c[3], c[4]), -1);
        }
        Check.due("the other way round", x.can(0, 3, 0, 0, 0), 0);
        Check.due("the other way round", x.cross(0, 3, 0, 0, 0), -4);
        Check.due("on the same bank", x.cross(0, 0, 4, 0, 0), -4);
        Check.due("nothing changed", x.rule(4), 0);
    }

    private static void full() {
        SeesawPairs x = Check.told("heap 0 20;heap 1 20;bridge 0 1 5;one plain 9 0 0;one plain 9 1 1;");
        Check.due("21 on bank 1", x.cross(0, 0, 1, 1, 0), -3);
        Check.due("21 on bank 0", x.cross(0, 0, 1, 0, 1), -3);
        x.heap(1, 5);
        Check.due("21 on bank 0 alone", x.cross(0, 0, 1, 0, 1), -3);
        x.heap(1, 20);
        x.heap(0, 5);
        Check.due("21 on bank 1 alone", x.cross(0, 0, 1, 1, 0), -3);
        x.heap(0, 20);
        Check.due("20 on both", x.cross(0, 0, 1, 1, 1), 1);
        x.cross(0, 1, 0, 0, 0);
        x.sheet(0, 0, 36);
        for (int i = 0; i < 36; i += 3) {
            x.lay(0, i + 1, i % 2);
            x.lay(0, i + 2, 1 - i % 2);
        }
        for (int turn = 0; turn < 83; turn++) x.read(0, 0, 0, 12);
        Check.due("998 crossings", x.rule(4), 998);
        Check.due("two more", x.read(0, 0, 0, 2), -21);
        Check.due("the 999th", x.cross(0, 0, 1, 0, 0), 999);
        Check.due("the 1000th", x.cross(0, 1, 0, 0, 0), -3);
        Check.due("who can not", x.cross(0, 0, 1, 0, 0), -4);
        Check.due("but he can", x.can(0, 1, 0, 0, 0), 1);
        Check.due("and plans", x.plan(0), 1);
        Check.due("none of a sheet", x.read(0, 0, 3, 1), -20);
        Check.due("999", x.rule(4), 999);
    }

    private static void balances() {
        SeesawPairs x = Check.told("stone 3;bridge 0 1 2;one carrier 10 0 1;one plain 18 1 0;one carrier 17 1 0;one plain 10 0 1;one plain 14 1 0;one exile 10 1 1;");
        due(x, 0, 1, 2, 2, 0);
        due(x, 0, 2, 2, 2, 0);
        due(x, 3, 1, -4, -4, -4);
        due(x, 3, 4, 1, 1, 0);
        due(x, 0, 4, 1, 1, 0);
        due(x, 4, 0, -2, -2, -2);
        due(x, 0, 3, -2, -2, -2);
        due(x, 0, 5, -2, -2, -2);
        x.weigh(0, 17);
        x.weigh(2, 10);
        due(x, 0, 2, 2, 0, 2);
        x.weigh(2, 17);
        due(x, 0, 2, 0, 0, 0);
        // without a play both ends must be alike: 18 and 3, as 12 and 9
        x = Check.told("stone 3;bridge 0 1 0;one carrier 12 0 1;one carrier 18 1 0;one plain 13 1 0;");
        due(x, 0, 1, 2, 2, 0);
        due(x, 0, 2, -4, -4, -4);
        Check.due("what -1", x.balance(0, 0, 1, -1), -1);
        Check.due("what 3", x.balance(0, 0, 1, 3), -1);
        Check.due("alike", x.balance(0, 0, 0, 0), -1);
        Check.due("no bridge", x.balance(1, 0, 1, 0), -1);
        Check.due("no one", x.balance(0, 0, 3, 0), -1);
        Check.due("no one", x.balance(0, -1, 1, 0), -1);
    }

    private static void due(SeesawPairs x, int p, int q, int all, int ofP, int ofQ) {
        Check.due("balance " + p + " " + q, x.balance(0, p, q, 0), all);
        Check.due("balance of p " + p + " " + q, x.balance(0, p, q, 1), ofP);
        Check.due("balance of q " + p + " " + q, x.balance(0, p, q, 2), ofQ);
    }

    private static void fellows() {
        SeesawPairs x = Check.told(Check.EXAMPLE);
        int[][] due = {{8, 0, 16, 1, 4, -2}, {-2, 32, 0, 32, -2, 10}, {32, -2, -2, -2, 0, 1}};
        for (int b = 0; b < 3; b++) {
            for (int p = 0; p < 6; p++) Check.due("fellows " + b + " " + p, x.fellows(b, p), due[b][p]);
        }
        Check.due("no bridge", x.fellows(3, 0), -1);
        Check.due("no bridge", x.fellows(-1, 0), -1);
        Check.due("no one", x.fellows(0, 6), -1);
        Check.due("no one", x.fellows(0, -1), -1);
    }
}
