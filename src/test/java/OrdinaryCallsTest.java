import java.nio.charset.StandardCharsets;

/** What each call does, by ordinary runs: promises 1 to 38. */
public final class OrdinaryCallsTest {
    public static void main(String[] args) {
        promises1To5();
        promises6To9();
        promises10To14();
        promises15To18();
        promises19To22();
        promises23To25();
        promises26To29();
        promises30To31();
        promises32To35();
        promises36To38();
        Sentences.finish(1, 38);
    }

    private static void promises1To5() {
        Sentences.holds(1, "`SeesawPairs()`: Two BANKS, no BRIDGES, nobody; SHEETS have nothing.", () -> {
            SeesawPairs x = new SeesawPairs();
            int[] rules = {2, 0, 0, 3, 0};
            for (int what = 0; what < 5; what++) Check.due("rule " + what, x.rule(what), rules[what]);
            int[] counts = {0, 0, 0, 0, -4, 0};
            for (int what = 0; what < 6; what++) Check.due("count " + what, x.count(what), counts[what]);
            for (int k = 0; k < 4; k++) Check.due("sheet " + k, x.lay(k, 0, 1), -11);
        });
        Sentences.holds(2, "`int feed(long v)`: Eight bytes come behind THE TAPE, the highest first: how many it has. FULL: more than 320.", () -> {
            SeesawPairs x = new SeesawPairs();
            Check.due("banks 4;", x.feed(0x62616e6b7320343bL), 8);
            Check.due("stone 5;", x.feed(0x73746f6e6520353bL), 16);
            Check.due("two lines", x.text(), 2);
            Check.due("banks", x.rule(0), 4);
            Check.due("a stone", x.rule(3), 5);
            for (int n = 8; n <= 320; n += 8) Check.due("blanks", x.feed(0x2020202020202020L), n);
            Check.due("more than 320", x.feed(0x2020202020202020L), -3);
        });
        Sentences.holds(3, "`int end(int n)`: THE TAPE keeps its first n bytes: how many it had. BAD.", () -> {
            SeesawPairs x = new SeesawPairs();
            x.feed(0x62616e6b7320343bL);
            x.feed(0x73746f6e6520353bL);
            Check.due("it had", x.end(8), 16);
            Check.due("it has", x.count(3), 8);
            Check.due("behind them", x.feed(0x73746f6e6520393bL), 16);
            Check.due("two lines", x.text(), 2);
            Check.due("a stone", x.rule(3), 9);
            Check.due("of an empty one", x.end(1), -1);
        });
        Sentences.holds(4, "`int text()`: THE TAPE (empty then) tells all: how many lines; -10 less the place of its FAULT: that which was told stays.", () -> {
            SeesawPairs x = new SeesawPairs();
            Check.due("lines", Check.tell(x, Story.TEXT), 15);
            Check.due("empty then", x.count(3), 0);
            Check.due("a fault at 13", Check.tell(x, "banks 2;heap A 3;"), -23);
            Check.due("empty then", x.count(3), 0);
            Check.due("that which was told stays", x.rule(0), 4);
        });
        Sentences.holds(5, "`int fault()`: The FAULT of the latest text(); 0.", () -> {
            String[] texts = {"banks 222;", "banks two;", "banks 7;", "banks 2;banks 2;", "one plain 9 0 0;".repeat(7), "heap 2 1;", "heap 1 1;"};
            int[] due = {1, 2, 3, 4, 5, 6, 0};
            SeesawPairs x = new SeesawPairs();
            Check.due("before a text", x.fault(), 0);
            for (int i = 0; i < texts.length; i++) {
                Check.tell(x, texts[i]);
                Check.due("fault of " + texts[i], x.fault(), due[i]);
            }
        });
    }

    private static void promises6To9() {
        Sentences.holds(6, "`int rule(int what)`: 0 BANKS, 1 BRIDGES, 2 PEOPLE, 3 what a STONE weighs, 4 CROSSINGS. BAD.", () -> {
            SeesawPairs x = Story.told();
            x.cross(0, 0, 5, 0, 0);
            int[] due = {4, 3, 6, 2, 1, -1};
            for (int what = 0; what < 6; what++) Check.due("rule " + what, x.rule(what), due[what]);
        });
        Sentences.holds(7, "`int bridge(int b, int what)`: Of a BRIDGE: 0 its first BANK, 1 the second one, 2 PLAY. BAD.", () -> {
            SeesawPairs x = Story.told();
            for (int b = 0; b < 3; b++) {
                for (int what = 0; what < 3; what++) Check.due("bridge " + b + " " + what, x.bridge(b, what), Story.BRIDGES[b][what]);
            }
            Check.due("no such bridge", x.bridge(3, 0), -1);
        });
        Sentences.holds(8, "`int one(int p, int what)`: Of a ONE: 0 KIND, 1 WEIGHT, 2 BANK, 3 GOAL. BAD.", () -> {
            SeesawPairs x = Story.told();
            for (int p = 0; p < 6; p++) {
                for (int what = 0; what < 4; what++) Check.due("one " + p + " " + what, x.one(p, what), Story.PEOPLE[p][what]);
            }
            Check.due("no such what", x.one(5, 4), -1);
        });
        Sentences.holds(9, "`int stones(int bank)`: STONES of a BANK. BAD.", () -> {
            SeesawPairs x = Story.told();
            int[] due = {0, 7, 0, 2, -1};
            for (int bank = 0; bank < 5; bank++) Check.due("stones " + bank, x.stones(bank), due[bank]);
        });
    }

    private static void promises10To14() {
        Sentences.holds(10, "`int heap(int bank, int v)`: STONES of a BANK become v (0 to 20): what they were. BAD.", () -> {
            SeesawPairs x = Story.told();
            Check.due("no stone for 1", x.can(0, 0, 1, 0, 2), 0);
            Check.due("there were none", x.heap(0, 2), 0);
            Check.due("he takes two", x.can(0, 0, 1, 0, 2), 1);
            Check.due("there were two", x.heap(0, 1), 2);
            Check.due("in all", x.count(5), 10);
            Check.due("too many", x.heap(0, 21), -1);
        });
        Sentences.holds(11, "`int play(int b, int v)`: PLAY of a BRIDGE becomes v: what it was. BAD.", () -> {
            SeesawPairs x = Story.told();
            Check.due("it was", x.play(1, 6), 4);
            Check.due("a stout one has 12 now", x.fellows(1, 3), 5);
            Check.due("it was", x.play(1, 2), 6);
            Check.due("neither now", x.fellows(1, 3), 0);
            Check.due("too much", x.play(1, 21), -1);
        });
        Sentences.holds(12, "`int weigh(int p, int v)`: WEIGHT of a ONE becomes v: what it was. BAD.", () -> {
            SeesawPairs x = Story.told();
            Check.due("it was", x.weigh(1, 58), 55);
            Check.due("with 0 now", x.fellows(0, 1), 1);
            Check.due("an errand now", x.errands(0, 0), 1);
            Check.due("too light", x.weigh(1, 0), -1);
        });
        Sentences.holds(13, "`int send(int p, int bank, int goal)`: A ONE is on a BANK, with a GOAL: the BANK where he was. BAD.", () -> {
            SeesawPairs x = Story.told();
            Check.due("two are at their goals", x.count(0), 2);
            Check.due("3 was on 3", x.send(3, 1, 0), 3);
            Check.due("on a bank", x.one(3, 2), 1);
            Check.due("with a goal", x.one(3, 3), 0);
            Check.due("he could go with 1 now, an errand", x.errands(0, 13), 1);
            Check.due("no crossing was made", x.rule(4), 0);
            Check.due("no such bank", x.send(3, 4, 0), -1);
        });
        Sentences.holds(14, "`int feast(int bank, int v)`: All on a BANK weigh v more (-9 to 9; 1 at least, 99 at most): how many are there. BAD.", () -> {
            SeesawPairs x = Story.told();
            int[] there = {2, 2, 1, 1};
            for (int bank = 0; bank < 4; bank++) Check.due("on bank " + bank, x.feast(bank, bank + 3), there[bank]);
            int[] weights = {74, 58, 65, 64, 65, 66};
            for (int p = 0; p < 6; p++) Check.due("weight of " + p, x.one(p, 1), weights[p]);
            Check.due("too much", x.feast(0, 10), -1);
        });
    }

    private static void promises15To18() {
        Sentences.holds(15, "`int can(int b, int p, int q, int i, int j)`: Whether p (with i STONES) and q (with j) CAN cross (1, 0: also where they are no PAIR).", () -> {
            SeesawPairs x = Story.told();
            for (int b = 0; b < 3; b++) {
                for (int p = 0; p < 6; p++) {
                    for (int q = 0; q < 6; q++) {
                        int code = 100 * b + 10 * p + q;
                        if (p != q) Check.due("can " + code, x.can(b, p, q, 0, 0), code == 5 || code == 132 || code == 243 ? 1 : 0);
                    }
                }
            }
        });
        Sentences.holds(16, "`int cross(int b, int p, int q, int i, int j)`: They CROSS: CROSSINGS then. BAD; NONE: they can not;", () -> {
            SeesawPairs x = Story.told();
            for (int k = 0; k < 3; k++) {
                Check.due("crossing " + k, x.cross(Story.PLAN[k] / 100, Story.PLAN[k] / 10 % 10, Story.PLAN[k] % 10, 0, 0), k + 1);
            }
            int[] banks = {0, 1, 3, 1, 2, 0};
            for (int p = 0; p < 6; p++) Check.due("bank of " + p, x.one(p, 2), banks[p]);
            Check.due("0 is on bank 0 now", x.cross(0, 0, 5, 0, 0), -4);
            Check.due("alike", x.cross(0, 5, 5, 0, 0), -1);
        });
        Sentences.holds(17, "`int balance(int b, int p, int q, int what)`: It BALANCES (a PAIR, no exile against it): STONES (what 0), those of p (1), of q (2).", () -> {
            SeesawPairs x = Story.told();
            int[][] due = {{0, 0, 1, 2, 0, 2}, {0, 0, 5, 0, 0, 0}, {1, 3, 2, 0, 0, 0}, {2, 4, 3, 0, 0, 0}, {1, 3, 0, -4, -4, -4}, {0, 2, 1, -2, -2, -2}};
            for (int[] d : due) {
                for (int what = 0; what < 3; what++) Check.due("balance " + d[1] + " " + d[2], x.balance(d[0], d[1], d[2], what), d[3 + what]);
            }
            x.weigh(3, 56);
            Check.due("58 to 61", x.balance(1, 3, 2, 0), 1);
            Check.due("3 has it", x.balance(1, 3, 2, 1), 1);
            Check.due("2 has none", x.balance(1, 3, 2, 2), 0);
        });
        Sentences.holds(18, "`int fellows(int b, int p)`: With whom a ONE CAN cross a BRIDGE without STONES (bits). BAD; STATE: he is not on a BANK of it.", () -> {
            SeesawPairs x = Story.told();
            int[][] due = {{32, 0, 0, -2, -2, 1}, {0, -2, 8, 4, -2, -2}, {-2, -2, -2, 16, 8, -2}};
            for (int b = 0; b < 3; b++) {
                for (int p = 0; p < 6; p++) Check.due("fellows " + b + " " + p, x.fellows(b, p), due[b][p]);
            }
            Check.due("no such one", x.fellows(0, 6), -1);
        });
    }

    private static void promises19To22() {
        Sentences.holds(19, "`int errands(int b, int what)`: ERRANDS at a BRIDGE: PAIRS (what 0); 10 and p: with whom p crosses. BAD; NONE (10 and p): with nobody.", () -> {
            SeesawPairs x = Story.told();
            Check.due("2 and 3 at bridge 1", x.errands(1, 0), 1);
            Check.due("2 with", x.errands(1, 12), 3);
            Check.due("none at bridge 0 yet", x.errands(0, 0), 0);
            x.feast(0, 3);
            Check.due("58 goes with 70", x.errands(0, 0), 1);
            int[] fellows = {1, 0, -4, -4, -4, -4, -1};
            for (int p = 0; p < 7; p++) Check.due("fellow of " + p, x.errands(0, 10 + p), fellows[p]);
        });
        Sentences.holds(20, "`int heaved(int b, int what)`: HEAVED: PAIRS (what 0), STONES of all (1); 10 and p: with whom p crosses. BAD;", () -> {
            SeesawPairs x = Story.told();
            x.send(3, 1, 0);
            // 1 goes with 3 by none, with 0 by two stones; 5 has his goal
            Check.due("pairs", x.heaved(0, 0), 1);
            Check.due("stones", x.heaved(0, 1), 0);
            Check.due("3 goes with", x.heaved(0, 13), 1);
            x.send(5, 0, 1);
            // 0 with 1 and 3 with 5 by two and none; 0 with 5 and 3 with 1 by none
            Check.due("pairs", x.heaved(0, 0), 2);
            Check.due("stones", x.heaved(0, 1), 0);
            int[] fellows = {5, 3, -4, 1, -4, 0};
            for (int p = 0; p < 6; p++) Check.due("fellow of " + p, x.heaved(0, 10 + p), fellows[p]);
        });
        Sentences.holds(21, "`int worth(int b, int p)`: How many PAIRS of ERRANDS at a BRIDGE there would be fewer without a ONE. BAD.", () -> {
            SeesawPairs x = Story.told();
            x.send(3, 1, 0);
            x.send(5, 0, 1);
            // without 1: 0 or 3 with 5; without 2, 4: all the same
            int[] due = {1, 1, 0, 1, 0, 1, -1};
            for (int p = 0; p < 7; p++) Check.due("worth " + p, x.worth(0, p), due[p]);
        });
        Sentences.holds(22, "for a new plain ONE, who would cross a BRIDGE from its first BANK (side 0), its second one (1), by which there are most PAIRS of ERRANDS", () -> {
            SeesawPairs x = Story.told();
            // with 1 (55 by 6); with 0 (70 by 12); 3 and 2 go without him, and nobody else; with nobody
            int[][] due = {{49, 1}, {58, 1}, {1, 1}, {1, 1}, {1, 0}, {1, 0}};
            for (int k = 0; k < 6; k++) {
                for (int what = 0; what < 2; what++) Check.due("hire " + k + " " + what, x.hire(k / 2, k % 2, what), due[k][what]);
            }
        });
    }

    private static void promises23To25() {
        Sentences.holds(23, "`int plan(int what)`: A PLAN: CROSSINGS (what 0); 10 and k (0 on): CROSSING k, 100 times the BRIDGE, 10 times p, and q.", () -> {
            SeesawPairs x = Story.told();
            Check.due("crossings", x.plan(0), 3);
            for (int k = 0; k < 3; k++) Check.due("crossing " + k, x.plan(10 + k), Story.PLAN[k]);
            Check.due("not so many", x.plan(13), -4);
            x.send(2, 1, 0);
            Check.due("an exile would come to bank 0", x.plan(0), -4);
        });
        Sentences.holds(24, "`int reach(int p)`: BANKS to which a ONE can come (bits; his own, too), by CROSSINGS of anybody without STONES. BAD.", () -> {
            SeesawPairs x = Story.told();
            // 3 comes to 1; 4 takes his turns with 2, 3; the exile never comes to 0
            Check.due("the exile", x.reach(2), 14);
            Check.due("3 comes to 0 with 1, to 2 with 4", x.reach(3), 15);
            x.play(1, 1);
            // nobody passes bridge 1 now: 58, 60 (a child) on the one side, 61, 63, 70 (a stout one) on the other
            int[] due = {3, 1, 2, 12, 12, 3};
            for (int p = 0; p < 6; p++) Check.due("reach " + p, x.reach(p), due[p]);
            Check.due("no such one", x.reach(6), -1);
        });
        Sentences.holds(25, "`int ways()`: How many ways all can stand on BANKS by such CROSSINGS (as they stand, too).", () -> {
            SeesawPairs x = Story.told();
            x.play(1, 1);
            Check.due("0 and 5 may cross or not, 3 and 4 likewise", x.ways(), 4);
            x.play(2, 3);
            Check.due("3 and 4 may not", x.ways(), 2);
        });
    }

    private static void promises26To29() {
        Sentences.holds(26, "`int tell(int b, int p, int q)`: THE DAY: a PAIR more is told: how many are. BAD (also alike); FULL.", () -> {
            SeesawPairs x = Story.told();
            Check.due("a third one", x.tell(0, 0, 3), 3);
            Check.due("all can", x.judge(), -4);
            Check.due("a fourth one", x.tell(0, 0, 3), 4);
            Check.due("it can not", x.judge(), 3);
            Check.due("alike", x.tell(0, 3, 3), -1);
        });
        Sentences.holds(27, "`int forget(int n)`: Of THE DAY the first n stay: how many there were. BAD.", () -> {
            SeesawPairs x = Story.told();
            x.tell(0, 1, 0);
            Check.due("there were", x.forget(1), 3);
            Check.due("there is", x.count(1), 1);
            Check.due("the first one stays", x.judge(), -4);
            x.cross(1, 3, 2, 0, 0);
            Check.due("it can not cross again", x.judge(), 0);
            Check.due("there are not two", x.forget(2), -1);
        });
        Sentences.holds(28, "`int judge()`: The first of THE DAY that can not cross (those ahead did). NONE: all can.", () -> {
            SeesawPairs x = Story.told();
            Check.due("all can", x.judge(), -4);
            x.weigh(1, 51);
            Check.due("58 to 51 can not", x.judge(), 1);
            x.weigh(2, 63);
            Check.due("58 to 63 can not", x.judge(), 0);
            Check.due("nobody went", x.rule(4), 0);
        });
        Sentences.holds(29, "`int late(int p)`: How many of THE DAY cross, one behind another, if a ONE does not come and who can not cross is left out. BAD.", () -> {
            SeesawPairs x = Story.told();
            x.tell(0, 0, 5);
            // without 2 or 3 there is but the third one, without 1 the first and the third one
            int[] due = {2, 2, 1, 1, 3, 2, -1};
            for (int p = 0; p < 7; p++) Check.due("late " + p, x.late(p), due[p]);
        });
    }

    private static void promises30To31() {
        Sentences.holds(30, "`int fits(int k, int n, int what)`: From IMAGE k by n CROSSINGS (0 to 4): rows (what 0); 10 and i: CROSSING i of the first one (as in plan()).", () -> {
            SeesawPairs x = Story.told();
            x.keep(1);
            for (int step : Story.PLAN) x.cross(step / 100, step / 10 % 10, step % 10, 0, 0);
            Check.due("not by two", x.fits(1, 2, 0), 0);
            Check.due("by three, in one way", x.fits(1, 3, 0), 1);
            for (int i = 0; i < 3; i++) Check.due("crossing " + i, x.fits(1, 3, 10 + i), Story.PLAN[i]);
            Check.due("no image 0", x.fits(0, 3, 0), -2);
        });
        Sentences.holds(31, "`int season(int seed, int n, int what)`: A SEASON by a seed, n tries (1 to 100): CROSSINGS made (what 0), how many are at their GOALS then (1).", () -> {
            SeesawPairs x = Check.told("bridge 0 1 9;one plain 5 0 1;one plain 5 1 0;");
            // p, q of six tries by seed 0, modulo 2: 0 0, 0 1, 1 0, 1 0, 0 1, 0 1
            int[] made = {0, 1, 2, 2, 3, 3};
            int[] there = {0, 2, 0, 0, 2, 2};
            for (int n = 1; n <= 6; n++) {
                Check.due("crossings by " + n, x.season(0, n, 0), made[n - 1]);
                Check.due("at their goals by " + n, x.season(0, n, 1), there[n - 1]);
            }
        });
    }

    private static void promises32To35() {
        Sentences.holds(32, "`int keep(int k)`: IMAGE k (0, 1) is PEOPLE, STONES, PLAYS, CROSSINGS: whether there was one (1, 0). BAD.", () -> {
            SeesawPairs x = Story.told();
            Check.due("there was none", x.keep(0), 0);
            x.cross(1, 3, 2, 1, 0);
            Check.due("there was one", x.keep(0), 1);
            x.weigh(0, 9);
            x.heap(3, 20);
            x.play(2, 0);
            x.cross(0, 3, 1, 0, 0);
            Check.due("back", x.back(0), 1);
            Check.due("people", x.one(0, 1), 70);
            Check.due("people", x.one(3, 2), 1);
            Check.due("stones", x.stones(3), 1);
            Check.due("plays", x.bridge(2, 2), 10);
            Check.due("crossings", x.rule(4), 1);
        });
        Sentences.holds(33, "`int back(int k)`: All is as IMAGE k: CROSSINGS. BAD; STATE: there is none.", () -> {
            SeesawPairs x = Story.told();
            x.keep(1);
            x.cross(0, 0, 5, 1, 0);
            x.send(4, 0, 1);
            Check.due("none were made", x.back(1), 0);
            for (int p = 0; p < 6; p++) {
                for (int what = 0; what < 4; what++) Check.due("one " + p + " " + what, x.one(p, what), Story.PEOPLE[p][what]);
            }
            Check.due("stones", x.stones(1), 7);
            Check.due("there is none", x.back(0), -2);
        });
        Sentences.holds(34, "`int sheet(int k, int lane, int n)`: A SHEET is a new row of CELLS 0: 1. BAD: also n above 40; -10 - 4.", () -> {
            SeesawPairs x = Check.told("bridge 0 1 9;one plain 5 0 1;one plain 5 1 0;");
            Check.due("new", x.sheet(0, 1, 7), 1);
            Check.due("cells", x.count(4), 7);
            x.lay(0, 2, 1);
            Check.due("0 with 1", x.read(0, 1, 0, 1), 1);
            Check.due("new again", x.sheet(0, 1, 3), 1);
            Check.due("0 with 0", x.read(0, 1, 0, 1), -20);
            Check.due("above 40", x.sheet(0, 1, 41), -1);
            Check.due("below 0", x.sheet(0, 1, -1), -14);
        });
        Sentences.holds(35, "`int lay(int k, int i, int v)`: CELL i of a SHEET becomes v (its lowest bits): 1. BAD: k; -10 less the FAULT: NULL, INDEX.", () -> {
            SeesawPairs x = Story.told();
            Check.due("nothing", x.lay(2, 0, 1), -11);
            x.sheet(2, 0, 3);
            int[] cells = {0x101, 0x7f03, -254};
            for (int i = 0; i < 3; i++) Check.due("laid", x.lay(2, i, cells[i]), 1);
            Check.due("1, 3, 2", x.read(2, 0, 0, 1), 1);
            Check.due("index", x.lay(2, 3, 0), -12);
            Check.due("no such sheet", x.lay(4, 0, 0), -1);
        });
    }

    private static SeesawPairs withPlan() {
        SeesawPairs x = Story.told();
        x.sheet(3, 2, 10);
        for (int k = 0; k < 3; k++) {
            x.lay(3, 1 + 3 * k, Story.PLAN[k] / 100);
            x.lay(3, 2 + 3 * k, Story.PLAN[k] / 10 % 10);
            x.lay(3, 3 + 3 * k, Story.PLAN[k] % 10);
        }
        return x;
    }

    private static void promises36To38() {
        Sentences.holds(36, "PAIRS (BRIDGE, p, q) are read of a SHEET taken as of a lane, three CELLS each from CELL f on, one behind another", () -> {
            SeesawPairs x = withPlan();
            Check.due("all crossed", x.read(3, 2, 1, 3), 3);
            Check.due("all are there", x.count(0), 6);
            Check.due("crossings", x.rule(4), 3);
            SeesawPairs other = withPlan();
            Check.due("two crossed", other.read(3, 2, 1, 2), 2);
            Check.due("then the third one", other.read(3, 2, 7, 1), 1);
            Check.due("taken as of another lane", other.read(3, 0, 1, 1), 0);
            Check.due("so it is found", other.torn(), 3);
        });
        Sentences.holds(37, "`int torn()`: The FAULT of the latest read() that came to an end; 0.", () -> {
            SeesawPairs x = withPlan();
            Check.due("before a read", x.torn(), 0);
            Check.due("the fourth one is not whole", x.read(3, 2, 1, 4), 3);
            Check.due("index", x.torn(), 2);
            Check.due("the same again is refused", x.read(3, 2, 1, 1), -20);
            Check.due("it came to no end", x.torn(), 2);
            Check.due("none is read", x.read(3, 2, 1, 0), 0);
            Check.due("it did", x.torn(), 0);
        });
        Sentences.holds(38, "`int count(int what)`: How many: 0 PEOPLE at their GOALS, 1 of THE DAY, 2 IMAGES, 3 bytes on THE TAPE, 4 CELLS of SHEET 0 (NONE: nothing), 5 STONES in all. BAD.", () -> {
            SeesawPairs x = Story.told();
            x.keep(1);
            Check.put(x, "stone 9;;".getBytes(StandardCharsets.ISO_8859_1));
            int[] due = {2, 2, 1, 9, -4, 9, -1};
            for (int what = 0; what < 7; what++) Check.due("count " + what, x.count(what), due[what]);
            x.sheet(0, 2, 33);
            Check.due("cells", x.count(4), 33);
        });
    }
}
