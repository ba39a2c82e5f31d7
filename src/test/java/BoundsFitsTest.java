/** Boundaries that promises 30 and 31 name: fits, season. */
public final class BoundsFitsTest {
    private static final String TWO = "bridge 0 1 9;one plain 5 0 1;one plain 5 1 0;";

    public static void main(String[] args) {
        ask();
        Sentences.finish(30, 31);
    }

    static void ask() {
        promise30Fits();
        promise30Rows();
        promise31Season();
        promise31Seeds();
    }

    private static void promise30Fits() {
        Sentences.holds(30, "From IMAGE k by n CROSSINGS (0 to 4): rows (what 0)", () -> {
            SeesawPairs x = Check.told(TWO);
            x.keep(0);
            int[] stay = {1, 0, 1, 0, 1};
            for (int n = 0; n <= 4; n++) Check.due("as they stood, by " + n, x.fits(0, n, 0), stay[n]);
            x.cross(0, 0, 1, 0, 0);
            x.keep(1);
            for (int n = 0; n <= 4; n++) Check.due("they crossed, by " + n, x.fits(0, n, 0), 1 - stay[n]);
            for (int n = 0; n <= 4; n++) Check.due("from the other image, by " + n, x.fits(1, n, 0), stay[n]);
            Check.bounds("fits n", 0, 4, n -> x.fits(0, n, 0));
            Check.badOutside("fits n of a crossing", 1, 4, n -> x.fits(0, n, 10));
            SeesawPairs nobody = new SeesawPairs();
            nobody.keep(0);
            int[] none = {1, 0, 0, 0, 0};
            for (int n = 0; n <= 4; n++) Check.due("nobody, by " + n, nobody.fits(0, n, 0), none[n]);
        });
        Sentences.holds(30, "BAD (also i no less than n)", () -> {
            SeesawPairs x = Check.told(TWO);
            x.keep(0);
            x.keep(1);
            for (int n = 0; n <= 4; n++) {
                int by = n;
                Check.badOutside("fits what by " + n, 0, 9 + n, what -> x.fits(0, by, what));
                for (int what = 1; what < 10; what++) Check.due("fits what " + what, x.fits(0, n, what), -1);
                for (int i = 0; i < n; i++) Check.due("crossing " + i + " is asked", x.fits(0, n, 10 + i) == -1 ? 0 : 1, 1);
                Check.bounds("fits k", 0, 1, k -> x.fits(k, by, 0));
            }
            SeesawPairs none = Check.told(TWO);
            Check.due("before there is an image", none.fits(0, 0, 10), -1);
            Check.due("before there is an image", none.fits(0, 5, 0), -1);
            Check.due("before there is an image", none.fits(2, 0, 0), -1);
        });
        Sentences.holds(30, "STATE: there is no such IMAGE", () -> {
            SeesawPairs x = Check.told(TWO);
            for (int k = 0; k < 2; k++) {
                Check.due("image " + k, x.fits(k, 0, 0), -2);
                Check.due("image " + k, x.fits(k, 4, 13), -2);
            }
            x.keep(1);
            Check.due("image 0", x.fits(0, 0, 0), -2);
            Check.due("image 1", x.fits(1, 0, 0), 1);
            Check.tell(x, TWO);
            Check.due("image 1 is gone", x.fits(1, 0, 0), -2);
        });
        Sentences.holds(30, "NONE (10 and i): there is none.", () -> {
            SeesawPairs x = Check.told(TWO);
            x.keep(0);
            Check.due("none by 1", x.fits(0, 1, 10), -4);
            for (int i = 0; i < 3; i++) Check.due("none by 3 " + i, x.fits(0, 3, 10 + i), -4);
            Check.due("one by 2", x.fits(0, 2, 10), 1);
            x.send(0, 1, 1);
            for (int n = 1; n <= 4; n++) Check.due("by none " + n, x.fits(0, n, 10), -4);
            Check.due("no rows", x.fits(0, 4, 0), 0);
        });
    }

    private static void promise30Rows() {
        Sentences.holds(30, "CROSSING i of the first one (as in plan())", () -> {
            SeesawPairs x = Check.told("bridge 0 1 9;bridge 1 0 9;one plain 5 0 1;one plain 5 1 0;");
            x.keep(0);
            // there by either bridge, 0 ahead of 1 at the one, behind at the other
            int[] first = {1, 10, 1, 10};
            Check.due("rows", x.fits(0, 4, 0), 16);
            for (int i = 0; i < 4; i++) Check.due("crossing " + i, x.fits(0, 4, 10 + i), first[i]);
            x.weigh(1, 14);
            x.play(0, 8);
            int[] other = {110, 101, 110, 101};
            Check.due("rows", x.fits(0, 4, 0), 1);
            for (int i = 0; i < 4; i++) Check.due("crossing " + i, x.fits(0, 4, 10 + i), other[i]);
        });
        Sentences.holds(0, "rows of PAIRS that CAN cross, one behind another (WEIGHTS, PLAYS as now)", () -> {
            SeesawPairs x = Check.told("heap 0 9;heap 1 9;bridge 0 1 3;one plain 5 0 1;one plain 5 1 0;");
            x.weigh(1, 99);
            x.play(0, 0);
            x.keep(0);
            x.weigh(1, 8);
            x.play(0, 3);
            x.cross(0, 0, 1, 0, 0);
            Check.due("as now", x.fits(0, 1, 0), 1);
            x.weigh(1, 9);
            Check.due("too heavy now, without stones", x.fits(0, 1, 0), 0);
            x.play(0, 4);
            Check.due("more play now", x.fits(0, 1, 0), 1);
            SeesawPairs exile = Check.told("bridge 0 1 3;one exile 5 0 1;one plain 5 1 0;");
            exile.keep(0);
            Check.due("he would not come back", exile.fits(0, 2, 0), 0);
        });
    }

    private static void promise31Season() {
        Sentences.holds(31, "n tries (1 to 100)", () -> {
            SeesawPairs x = Check.told(TWO);
            Check.badOutside("season n", 1, 100, n -> x.season(1, n, 0));
            for (int n = 1; n <= 100; n++) {
                int[] due = bySeed(12345, n, 1, 2);
                Check.due("crossings by " + n, x.season(12345, n, 0), due[0]);
                Check.due("at their goals by " + n, x.season(12345, n, 1), due[1]);
            }
        });
        Sentences.holds(31, "BAD;", () -> {
            SeesawPairs x = Check.told(TWO);
            Check.bounds("season what", 0, 1, what -> x.season(1, 1, what));
            Check.bounds("season n", 1, 100, n -> x.season(1, n, 1));
            SeesawPairs none = new SeesawPairs();
            Check.badOutside("season n of nobody", 1, 100, n -> none.season(1, n, 1));
            Check.badOutside("season what of nobody", 0, 1, what -> none.season(1, 1, what));
        });
        Sentences.holds(31, "STATE: there are no BRIDGES, nobody.", () -> {
            Check.due("neither", new SeesawPairs().season(1, 1, 0), -2);
            Check.due("nobody", Check.told("bridge 0 1 9;").season(1, 1, 0), -2);
            Check.due("no bridges", Check.told("one plain 5 0 1;one plain 5 1 0;").season(1, 100, 1), -2);
            Check.due("one alone", Check.told("bridge 0 1 9;one plain 5 0 0;").season(1, 100, 0), 0);
            Check.due("he is at his goal", Check.told("bridge 0 1 9;one plain 5 0 0;").season(1, 100, 1), 1);
        });
    }

    private static void promise31Seeds() {
        Sentences.holds(0, "the seed becomes seed times 1103515245 and 12345; bits 16 to 30 of it modulo BRIDGES are the BRIDGE", () -> {
            int[] seeds = {0, 1, -1, 2, 77, 32767, 32768, 65535, 65536, -65536, 1 << 30, Integer.MAX_VALUE, Integer.MAX_VALUE - 1,
                Integer.MIN_VALUE, Integer.MIN_VALUE + 1, 1103515245, -1103515245};
            for (int bridges = 1; bridges <= 4; bridges++) {
                for (int people = 2; people <= 6; people++) {
                    SeesawPairs x = Check.told("bridge 0 1 9;".repeat(bridges) + "one plain 5 0 1;one plain 5 1 0;" + "one plain 5 0 0;".repeat(people - 2));
                    for (int seed : seeds) {
                        int[] due = bySeed(seed, 100, bridges, people);
                        Check.due("season of " + seed, x.season(seed, 100, 0), due[0]);
                        Check.due("goals of " + seed, x.season(seed, 100, 1), due[1]);
                    }
                }
            }
            // one bridge of two is of no use: so which one is drawn is seen
            SeesawPairs x = Check.told("bridge 0 1 9;bridge 1 0 9;one plain 5 0 1;one plain 5 1 0;");
            for (int seed : seeds) Check.due("two ways, " + seed, x.season(seed, 100, 0), twoWays(seed));
        });
        Sentences.holds(0, "A SEASON by a seed, by itself", () -> {
            SeesawPairs x = Check.told(TWO);
            int made = x.season(5, 100, 0);
            Check.due("some cross", made > 0 ? 1 : 0, 1);
            Check.due("no crossing", x.rule(4), 0);
            Check.due("nobody went", x.one(0, 2) * 10 + x.one(1, 2), 1);
            Check.due("again", x.season(5, 100, 0), made);
        });
    }

    private static int[] draw(long[] seed, int bridges, int people) {
        int[] drawn = new int[3];
        for (int d = 0; d < 3; d++) {
            seed[0] = Math.floorMod(seed[0] * 1103515245L + 12345L, 1L << 32);
            drawn[d] = (int) (seed[0] / 65536 % 32768 % (d == 0 ? bridges : people));
        }
        return drawn;
    }

    /** All bridges from 0 to 1; the first one on 0 with the other goal, the second on 1 likewise, the others at home on 0. */
    private static int[] bySeed(int start, int n, int bridges, int people) {
        int[] bank = new int[people];
        int[] goal = new int[people];
        bank[1] = 1;
        goal[0] = 1;
        long[] seed = {Math.floorMod((long) start, 1L << 32)};
        int made = 0;
        for (int t = 0; t < n; t++) {
            int[] drawn = draw(seed, bridges, people);
            if (bank[drawn[1]] != 0 || bank[drawn[2]] != 1) continue;
            bank[drawn[1]] = 1;
            bank[drawn[2]] = 0;
            made++;
        }
        int there = 0;
        for (int p = 0; p < people; p++) if (bank[p] == goal[p]) there++;
        return new int[] {made, there};
    }

    private static int twoWays(int start) {
        int[] bank = {0, 1};
        long[] seed = {Math.floorMod((long) start, 1L << 32)};
        int made = 0;
        for (int t = 0; t < 100; t++) {
            int[] drawn = draw(seed, 2, 2);
            if (bank[drawn[1]] != drawn[0] || bank[drawn[2]] != 1 - drawn[0]) continue;
            bank[drawn[1]] = 1 - drawn[0];
            bank[drawn[2]] = drawn[0];
            made++;
        }
        return made;
    }
}
