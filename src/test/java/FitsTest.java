/** Promises 30 and 31: fits, season. */
public final class FitsTest {
    public static void main(String[] args) {
        rows();
        weightsAsNow();
        mostRows();
        wrongNumbers();
        seasons();
        Check.finish();
    }

    private static void rows() {
        SeesawPairs x = Check.told("bridge 0 1 9;one plain 5 0 1;one plain 5 1 0;one plain 5 1 0;");
        x.keep(0);
        int[] stay = {1, 0, 2, 2, 6};
        for (int n = 0; n <= 4; n++) Check.due("as in the image, " + n, x.fits(0, n, 0), stay[n]);
        x.cross(0, 0, 2, 0, 0);
        int[] gone = {0, 1, 1, 3, 5};
        for (int n = 0; n <= 4; n++) Check.due("2 crossed, " + n, x.fits(0, n, 0), gone[n]);
        Check.due("by one", x.fits(0, 1, 10), 2);
        Check.due("by two", x.fits(0, 2, 10), 1);
        Check.due("by two, then", x.fits(0, 2, 11), 12);
        int[] three = {1, 10, 2};
        for (int i = 0; i < 3; i++) Check.due("by three " + i, x.fits(0, 3, 10 + i), three[i]);
        x.send(0, 0, 0);
        Check.due("by none", x.fits(0, 4, 0), 0);
        Check.due("by none", x.fits(0, 4, 13), -4);
    }

    private static void weightsAsNow() {
        SeesawPairs x = Check.told("bridge 0 1 2;one plain 5 0 1;one plain 5 1 0;");
        x.keep(1);
        x.cross(0, 0, 1, 0, 0);
        Check.due("fits", x.fits(1, 1, 0), 1);
        x.weigh(0, 8);
        Check.due("heavier now", x.fits(1, 1, 0), 0);
        x.play(0, 3);
        Check.due("more play now", x.fits(1, 1, 0), 1);
        Check.due("image 0", x.fits(0, 1, 0), -2);
        // an exile who was on bank 0 does not come back
        x = Check.told("bridge 0 1 2;one exile 5 0 1;one plain 5 1 0;");
        x.keep(0);
        Check.due("there and back", x.fits(0, 2, 0), 0);
        x.cross(0, 0, 1, 0, 0);
        Check.due("there", x.fits(0, 1, 0), 1);
        Check.due("there, back, there", x.fits(0, 3, 0), 0);
    }

    /** Three on each bank, by four bridges: 36 crossings at each step. */
    private static void mostRows() {
        SeesawPairs x = Check.told("bridge 0 1 9;bridge 0 1 9;bridge 0 1 9;bridge 0 1 9;one plain 5 0 1;one plain 5 0 1;one plain 5 0 1;"
            + "one plain 5 1 0;one plain 5 1 0;one plain 5 1 0;");
        x.keep(0);
        // closed walks among the threes of six: 9 neighbours each, two of whom share 4, as do two at distance 2
        int[] due = {1, 0, 9 * 16, 9 * 4 * 64, (9 * 9 + 9 * 4 * 4 + 9 * 4 * 4) * 256};
        for (int n = 0; n <= 4; n++) Check.due("rows " + n, x.fits(0, n, 0), due[n]);
    }

    private static void wrongNumbers() {
        SeesawPairs x = Check.told("bridge 0 1 9;one plain 5 0 1;one plain 5 1 0;");
        Check.due("no image", x.fits(0, 2, 10), -2);
        Check.due("image 2", x.fits(2, 0, 0), -1);
        Check.due("image -1", x.fits(-1, 0, 0), -1);
        Check.due("n -1", x.fits(0, -1, 0), -1);
        Check.due("n 5", x.fits(0, 5, 0), -1);
        Check.due("i 2", x.fits(0, 2, 12), -1);
        Check.due("i 0 of 0", x.fits(0, 0, 10), -1);
        Check.due("what 9", x.fits(0, 4, 9), -1);
        Check.due("what 1", x.fits(0, 4, 1), -1);
        Check.due("what -1", x.fits(0, 4, -1), -1);
        Check.due("what most", x.fits(0, 4, Integer.MAX_VALUE), -1);
        x.keep(0);
        Check.due("now there is one", x.fits(0, 2, 10), 1);
    }

    private static void seasons() {
        SeesawPairs x = Check.told("bridge 0 1 9;one plain 5 0 1;one plain 5 1 0;one plain 5 1 1;");
        for (int seed = -3; seed <= 3; seed++) {
            int[] made = bySeed(seed, 100);
            Check.due("season " + seed, x.season(seed, 100, 0), made[0]);
            Check.due("goals " + seed, x.season(seed, 100, 1), made[1]);
            Check.due("one try " + seed, x.season(seed, 1, 0), bySeed(seed, 1)[0]);
        }
        Check.due("by itself", x.rule(4), 0);
        Check.due("by itself", x.one(0, 2), 0);
        Check.due("n 0", x.season(1, 0, 0), -1);
        Check.due("n 101", x.season(1, 101, 0), -1);
        Check.due("what 2", x.season(1, 1, 2), -1);
        Check.due("what -1", x.season(1, 1, -1), -1);
        Check.due("nobody", Check.told("bridge 0 1 9;").season(1, 1, 0), -2);
        Check.due("no bridges", Check.told("one plain 1 0 1;").season(1, 1, 0), -2);
        Check.due("nobody, wrong", new SeesawPairs().season(1, 0, 0), -1);
    }

    /** The three of seasons(), whose weights never matter. */
    private static int[] bySeed(int seed, int n) {
        int[] bank = {0, 1, 1};
        long s = seed & 0xffffffffL;
        int made = 0;
        for (int t = 0; t < n; t++) {
            int[] drawn = new int[3];
            for (int d = 0; d < 3; d++) {
                s = (s * 1103515245L + 12345L) & 0xffffffffL;
                drawn[d] = (int) (s >> 16 & 32767) % (d == 0 ? 1 : 3);
            }
            if (bank[drawn[1]] != 0 || bank[drawn[2]] != 1) continue;
            bank[drawn[1]] = 1;
            bank[drawn[2]] = 0;
            made++;
        }
        int there = (bank[0] == 1 ? 1 : 0) + (bank[1] == 0 ? 1 : 0) + (bank[2] == 1 ? 1 : 0);
        return new int[] {made, there};
    }
}
