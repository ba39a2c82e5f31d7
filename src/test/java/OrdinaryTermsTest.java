/** The sentences of "Terms" (here promise 0) that name no boundary, by ordinary runs; seasons are compared with the same crossings made by cross(). */
public final class OrdinaryTermsTest {
    public static void main(String[] args) {
        whatThereIs();
        text();
        faults();
        pairs();
        errands();
        fromAnImage();
        seasons();
        sheets();
        Sentences.finish(0, 0);
    }

    private static void whatThereIs() {
        Sentences.holds(0, "Answers: BAD -1 (a number is not as told, there is no such BANK, BRIDGE, ONE, IMAGE, SHEET)", () -> {
            SeesawPairs x = Story.told();
            Check.due("a number", x.rule(5), -1);
            Check.due("a bank", x.stones(4), -1);
            Check.due("a bridge", x.bridge(3, 0), -1);
            Check.due("a one", x.one(6, 0), -1);
            Check.due("an image", x.keep(2), -1);
            Check.due("a sheet", x.lay(4, 0, 0), -1);
        });
        Sentences.holds(0, "STATE -2 (as told), FULL -3, NONE -4 (there is none), the first that fits", () -> {
            SeesawPairs x = Story.told();
            Check.due("he is on no bank of it", x.fellows(0, 3), -2);
            Check.due("nothing was kept", x.back(0), -2);
            for (int n = 3; n <= 8; n++) Check.due("told", x.tell(0, 0, 5), n);
            Check.due("a ninth", x.tell(0, 0, 5), -3);
            Check.due("no stones balance them", x.balance(1, 3, 0, 0), -4);
            Check.due("they can not", x.cross(0, 0, 1, 0, 0), -4);
        });
        Sentences.holds(0, "PEOPLE (6 at most), each a ONE: a KIND, a WEIGHT (1 to 99), a BANK, a GOAL (a BANK).", () -> {
            SeesawPairs x = Story.told();
            for (int p = 0; p < 6; p++) {
                for (int what = 0; what < 4; what++) Check.due("one " + p + " " + what, x.one(p, what), Story.PEOPLE[p][what]);
            }
        });
        Sentences.holds(0, "KINDS: 0 plain; 1 exile: may not come to BANK 0; 2 carrier: carries 3 STONES at most, all others 1; 3 child; 4 stout.", () -> {
            String[] kinds = {"plain", "exile", "carrier", "child", "stout"};
            for (int kind = 0; kind < 5; kind++) {
                SeesawPairs x = Check.told("stone 1;heap 0 9;heap 1 9;bridge 0 1 20;one plain 50 0 1;one " + kinds[kind] + " 50 1 0;");
                Check.due(kinds[kind], x.one(1, 0), kind);
                Check.due(kinds[kind] + " comes to bank 0", x.can(0, 0, 1, 0, 0), kind == 1 ? 0 : 1);
                Check.due(kinds[kind] + " with one stone", x.can(0, 0, 1, 0, 1), kind == 1 ? 0 : 1);
                Check.due(kinds[kind] + " with two", x.can(0, 0, 1, 0, 2), kind == 2 ? 1 : 0);
                Check.due(kinds[kind] + " with three", x.can(0, 0, 1, 0, 3), kind == 2 ? 1 : 0);
            }
        });
    }

    private static void text() {
        Sentences.holds(0, "TOKENS, each as long as may be, blanks (32) between: NAMES (a .. z), NUMBERS (1 or 2 figures), one ; .", () -> {
            SeesawPairs x = new SeesawPairs();
            Check.due("without blanks", Check.tell(x, "banks4;bridge3 2 11;one plain8 3 2;"), 3);
            Check.due("the play", x.bridge(0, 2), 11);
            Check.due("the weight", x.one(0, 1), 8);
            Check.due("two names are one without a blank", Check.tell(x, "oneplain 8 0 0;"), -10);
            Check.due("fault", x.fault(), 2);
            Check.due("two ; are two tokens", Check.tell(x, "banks 4;;"), -18);
            Check.due("fault", x.fault(), 2);
        });
        Sentences.holds(0, "text: { line } line: banks N ; | stone N ; | heap N N ; | bridge N N N ; | one K N N N ; | meet N N N ;", () -> {
            String[] lines = {"meet 0 1 0;", "one plain 9 1 0;", "heap 1 6;", "one plain 8 0 1;", "bridge 1 0 5;", "stone 4;", "banks 3;"};
            SeesawPairs x = new SeesawPairs();
            Check.due("no line", Check.tell(x, ""), 0);
            Check.due("in whichever order", Check.tell(x, String.join("", lines)), 7);
            int[] rules = {3, 1, 2, 4, 0};
            for (int what = 0; what < 5; what++) Check.due("rule " + what, x.rule(what), rules[what]);
            Check.due("the heap", x.stones(1), 6);
            Check.due("of the day", x.count(1), 1);
            // a number fewer, a number more: the token that stands there can not
            for (String line : lines) {
                int last = line.lastIndexOf(' ');
                String fewer = line.substring(0, last) + ";";
                Check.due("fewer: " + fewer, Check.tell(x, fewer), -10 - last);
                Check.due("a ; too early", x.fault(), 2);
                String more = line.replace(";", " 1;");
                Check.due("more: " + more, Check.tell(x, more), -10 - line.length());
                Check.due("a number too many", x.fault(), 2);
            }
        });
        Sentences.holds(0, "K: plain | exile | carrier | child | stout stone: what one weighs.", () -> {
            SeesawPairs x = Check.told("stone 6;heap 0 1;bridge 0 1 1;one child 20 0 1;one stout 26 1 0;");
            Check.due("what one weighs", x.rule(3), 6);
            Check.due("a child", x.one(0, 0), 3);
            Check.due("a stout one", x.one(1, 0), 4);
            Check.due("26 to 26", x.can(0, 0, 1, 1, 0), 1);
            Check.due("20 to 26", x.can(0, 0, 1, 0, 0), 0);
        });
    }

    private static void faults() {
        Sentences.holds(0, "FAULTS, the first met as it is read", () -> {
            SeesawPairs x = Story.told();
            Check.due("a bank that there is not, then a bad number", Check.tell(x, "heap 3 2;stone 0;"), -25);
            Check.due("the number is met first", x.fault(), 3);
            Check.due("a bank that there is not", Check.tell(x, "heap 3 2;stone 1;"), -27);
            Check.due("behind all", x.fault(), 6);
            Check.due("what was told stays", x.one(0, 1), 70);
        });
    }

    private static void pairs() {
        Sentences.holds(0, "A PAIR at a BRIDGE: p, on its first BANK, and q, on its second one, with so many STONES each", () -> {
            SeesawPairs x = Story.told();
            Check.due("0 comes to 0, 5 to 1", x.can(0, 0, 5, 0, 0), 1);
            Check.due("the other way round they are no pair", x.can(0, 5, 0, 0, 0), 0);
            Check.due("with a stone from bank 1", x.can(0, 0, 5, 1, 0), 1);
            Check.due("on bank 0 there is none", x.can(0, 0, 5, 0, 1), 0);
        });
        Sentences.holds(0, "It CAN cross, if neither is an exile who would come to BANK 0, and both ends, each with STONES, differ by no more than PLAY", () -> {
            SeesawPairs x = Story.told();
            x.weigh(2, 63);
            Check.due("the exile would come to bank 0", x.can(0, 2, 5, 0, 0), 0);
            Check.due("58 to 63", x.can(1, 3, 2, 0, 0), 0);
            Check.due("60 to 63", x.can(1, 3, 2, 1, 0), 1);
            Check.due("60 to 65", x.can(1, 3, 2, 1, 1), 0);
        });
        Sentences.holds(0, "It CROSSES: each is on the other BANK then, with his STONES there; one CROSSING more.", () -> {
            SeesawPairs x = Story.told();
            Check.due("crossed", x.cross(1, 3, 2, 1, 1), 1);
            int[] banks = {1, 0, 3, 1, 2, 0};
            for (int p = 0; p < 6; p++) Check.due("bank of " + p, x.one(p, 2), banks[p]);
            int[] stones = {0, 7, 0, 2};
            for (int bank = 0; bank < 4; bank++) Check.due("one for one, " + bank, x.stones(bank), stones[bank]);
            Check.due("with a stone from bank 1", x.cross(0, 3, 1, 1, 0), 2);
            int[] then = {1, 6, 0, 2};
            for (int bank = 0; bank < 4; bank++) Check.due("stones of " + bank, x.stones(bank), then[bank]);
            Check.due("crossings", x.rule(4), 2);
        });
        Sentences.holds(0, "It BALANCES by so many STONES: what p and q carry together, as few as can be", () -> {
            SeesawPairs x = Story.told();
            // 70 to 55 by a play of 12: 55 and one stone is 57, and two 59
            int[] due = {2, 0, 2};
            for (int what = 0; what < 3; what++) Check.due("balance " + what, x.balance(0, 0, 1, what), due[what]);
        });
    }

    private static void errands() {
        Sentences.holds(0, "ERRANDS at a BRIDGE: PAIRS, unlike ones, of whom each would cross towards his GOAL", () -> {
            SeesawPairs x = Check.told("bridge 1 0 2;one plain 30 0 1;one plain 31 1 0;one plain 32 1 0;one plain 33 0 1;one plain 33 1 1;");
            // 1 with 0, 3; 2 with 0, 3; 4 stays where he is
            int[] fellows = {1, 0, 3, 2, -4};
            Check.due("two pairs, each of two others", x.errands(0, 0), 2);
            for (int p = 0; p < 5; p++) Check.due("fellow of " + p, x.errands(0, 10 + p), fellows[p]);
        });
        Sentences.holds(0, "HEAVED: likewise, with PAIRS that BALANCE by some STONES", () -> {
            SeesawPairs x = Story.told();
            Check.due("no errands", x.errands(0, 0), 0);
            Check.due("heaved", x.heaved(0, 0), 1);
            Check.due("stones, though bank 0 has none", x.heaved(0, 1), 2);
            int[] fellows = {1, 0, -4, -4, -4, -4};
            for (int p = 0; p < 6; p++) Check.due("fellow of " + p, x.heaved(0, 10 + p), fellows[p]);
        });
        Sentences.holds(0, "A PLAN: CROSSINGS of PAIRS without STONES, by which all are at their GOALS", () -> {
            SeesawPairs x = Story.told();
            int[] steps = new int[Story.PLAN.length];
            for (int k = 0; k < steps.length; k++) steps[k] = x.plan(10 + k);
            for (int k = 0; k < steps.length; k++) {
                Check.due("crossing " + k, x.cross(steps[k] / 100, steps[k] / 10 % 10, steps[k] % 10, 0, 0), k + 1);
            }
            Check.due("all are there", x.count(0), 6);
        });
        Sentences.holds(0, "THE DAY: told PAIRS, one behind another, without STONES.", () -> {
            SeesawPairs x = Story.told();
            Check.due("the second one can, when the first one crossed", x.judge(), -4);
            Check.due("not without it", x.can(0, 3, 1, 0, 0), 0);
        });
    }

    private static void fromAnImage() {
        Sentences.holds(0, "From an IMAGE to now by n CROSSINGS without STONES: rows of PAIRS that CAN cross", () -> {
            SeesawPairs x = Story.told();
            x.keep(0);
            x.cross(2, 4, 3, 0, 0);
            Check.due("by one", x.fits(0, 1, 0), 1);
            Check.due("it", x.fits(0, 1, 10), 243);
            Check.due("a child and a plain one", x.can(2, 3, 4, 0, 0), 1);
        });
        Sentences.holds(0, "by which all who were on BANKS as in the IMAGE are where they are now.", () -> {
            SeesawPairs x = Story.told();
            x.keep(1);
            x.cross(2, 4, 3, 0, 0);
            x.cross(0, 0, 5, 0, 0);
            Check.due("not by one", x.fits(1, 1, 0), 0);
            Check.due("in two ways by two", x.fits(1, 2, 0), 2);
            Check.due("the first one", x.fits(1, 2, 10), 5);
            Check.due("then", x.fits(1, 2, 11), 243);
            x.back(1);
            Check.due("they stand as in it", x.fits(1, 0, 0), 1);
        });
    }

    private static void seasons() {
        Sentences.holds(0, "A SEASON by a seed, by itself, n tries: the seed becomes seed times 1103515245 and 12345", () -> byCalls(-2026, 60));
        Sentences.holds(0, "then likewise p, q, modulo PEOPLE: they CROSS without STONES, if they are a PAIR that CAN.", () -> {
            for (int seed = 1; seed <= 12; seed++) byCalls(seed * 104729, 100);
        });
    }

    /** The season, and its crossings made by cross(). */
    private static void byCalls(int start, int n) {
        SeesawPairs x = Story.told();
        SeesawPairs asked = Story.told();
        int seed = start;
        int[] drawn = new int[3];
        for (int t = 0; t < n; t++) {
            for (int d = 0; d < 3; d++) {
                seed = seed * 1103515245 + 12345;
                drawn[d] = (seed >> 16 & 32767) % (d == 0 ? 3 : 6);
            }
            x.cross(drawn[0], drawn[1], drawn[2], 0, 0);
        }
        Check.due("crossings by " + start, asked.season(start, n, 0), x.rule(4));
        Check.due("at their goals by " + start, asked.season(start, n, 1), x.count(0));
    }

    private static void sheets() {
        Sentences.holds(0, "SHEETS 0 to 3 are rows of BYTES (lane 0), SHORTS (1), INTS (2) with 0 to 40 CELLS, or nothing (at first).", () -> {
            SeesawPairs x = Story.told();
            for (int k = 0; k < 4; k++) Check.due("nothing at first " + k, x.lay(k, 0, 0), -11);
            // the lowest bits are 1, 3, 2: what is left of them depends on the lane
            int[] cells = {0x10001, 0x10003, 0x10002};
            for (int lane = 0; lane < 3; lane++) {
                Check.due("new", x.sheet(lane, lane, 3), 1);
                for (int i = 0; i < 3; i++) Check.due("laid", x.lay(lane, i, cells[i]), 1);
            }
            Check.due("ints", x.read(2, 2, 0, 1), -20);
            Check.due("shorts", x.read(1, 1, 0, 1), 1);
            Check.due("3 came to bank 1", x.one(3, 2), 1);
            Check.due("bytes: the same again, which can not be", x.read(0, 0, 0, 1), -20);
            x.send(2, 1, 3);
            x.send(3, 3, 1);
            Check.due("bytes", x.read(0, 0, 0, 1), 1);
        });
        Sentences.holds(0, "A FAULT is what the machine finds: 1 NULL (nothing), 2 INDEX, 3 CAST (another lane), 4 SIZE (below 0).", () -> {
            SeesawPairs x = Story.told();
            Check.due("below 0", x.sheet(1, 2, -5), -14);
            Check.due("nothing", x.lay(1, 2, 3), -11);
            x.sheet(1, 2, 5);
            Check.due("index", x.lay(1, 5, 3), -12);
            int[][] reads = {{2, 2, 0, 1}, {1, 2, 3, 2}, {1, 1, 0, 3}};
            for (int[] r : reads) {
                Check.due("none crossed", x.read(r[0], r[1], r[2], 1), 0);
                Check.due("torn", x.torn(), r[3]);
            }
        });
    }
}
