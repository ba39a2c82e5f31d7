/** Boundaries that promises 32 to 38 name: keep, back, sheet, lay, read, torn, count. */
public final class BoundsSheetsTest {
    private static final String TWO = "bridge 0 1 9;one plain 5 0 1;one plain 5 1 0;";

    public static void main(String[] args) {
        ask();
        Sentences.finish(32, 38);
    }

    static void ask() {
        promise32Keep();
        promise33Back();
        promise34Sheet();
        promise35Lay();
        promise36Read();
        promise36Refused();
        promise37Torn();
        promise38Count();
    }

    private static void promise32Keep() {
        Sentences.holds(32, "IMAGE k (0, 1) is PEOPLE, STONES, PLAYS, CROSSINGS", () -> {
            SeesawPairs x = Check.told("banks 4;heap 0 20;heap 3 1;bridge 0 1 20;bridge 3 2 0;one plain 1 0 3;one stout 20 1 2;");
            x.keep(0);
            x.heap(0, 0);
            x.heap(3, 20);
            x.play(0, 19);
            x.play(1, 20);
            x.cross(0, 0, 1, 0, 0);
            x.weigh(0, 99);
            x.send(1, 3, 3);
            x.keep(1);
            x.back(0);
            int[] first = {20, 0, 0, 1, 20, 0, 1, 0, 3, 20, 1, 2, 0};
            same("image 0", x, first);
            Check.due("image 1", x.back(1), 1);
            int[] second = {0, 0, 0, 20, 19, 20, 99, 1, 3, 20, 3, 3, 1};
            same("image 1", x, second);
        });
        Sentences.holds(32, "whether there was one (1, 0)", () -> {
            SeesawPairs x = new SeesawPairs();
            for (int k = 0; k < 2; k++) {
                Check.due("there was none " + k, x.keep(k), 0);
                Check.due("there was one " + k, x.keep(k), 1);
            }
            x.text();
            for (int k = 0; k < 2; k++) Check.due("none behind a text " + k, x.keep(k), 0);
            Check.tell(x, "#");
            for (int k = 0; k < 2; k++) Check.due("one behind a text that is refused " + k, x.keep(k), 1);
        });
        Sentences.holds(32, "BAD.", () -> {
            SeesawPairs x = Check.told(TWO);
            Check.badOutside("keep", 0, 1, x::keep);
            Check.due("none was kept", x.count(2), 0);
            Check.bounds("keep", 0, 1, x::keep);
            Check.due("two were", x.count(2), 2);
        });
    }

    /** Stones of four banks, plays of two bridges, weight, bank, goal of two people, crossings. */
    private static void same(String when, SeesawPairs x, int[] due) {
        int at = 0;
        for (int bank = 0; bank < 4; bank++) Check.due(when + " stones " + bank, x.stones(bank), due[at++]);
        for (int b = 0; b < 2; b++) Check.due(when + " play " + b, x.bridge(b, 2), due[at++]);
        for (int p = 0; p < 2; p++) {
            for (int what = 1; what < 4; what++) Check.due(when + " one " + p + " " + what, x.one(p, what), due[at++]);
        }
        Check.due(when + " crossings", x.rule(4), due[at]);
    }

    private static void promise33Back() {
        Sentences.holds(33, "All is as IMAGE k: CROSSINGS.", () -> {
            SeesawPairs x = Check.told(TWO);
            x.keep(0);
            x.cross(0, 0, 1, 0, 0);
            x.cross(0, 1, 0, 0, 0);
            x.keep(1);
            Check.due("none", x.back(0), 0);
            Check.due("none", x.rule(4), 0);
            Check.due("two", x.back(1), 2);
            x.weigh(0, 99);
            x.tell(0, 0, 1);
            Check.due("the image stays", x.back(1), 2);
            Check.due("as it was", x.one(0, 1), 5);
            Check.due("the day is no part of it", x.count(1), 1);
            Check.due("both are there still", x.count(2), 2);
        });
        Sentences.holds(33, "BAD;", () -> {
            SeesawPairs x = Check.told(TWO);
            Check.badOutside("back where there is none", 0, 1, x::back);
            x.keep(0);
            x.keep(1);
            x.cross(0, 0, 1, 0, 0);
            Check.badOutside("back", 0, 1, x::back);
            Check.due("nothing went back", x.rule(4), 1);
            Check.bounds("back", 0, 1, x::back);
        });
        Sentences.holds(33, "STATE: there is none.", () -> {
            SeesawPairs x = Check.told(TWO);
            for (int k = 0; k < 2; k++) Check.due("back " + k, x.back(k), -2);
            x.keep(1);
            Check.due("the other one", x.back(0), -2);
            Check.due("this one", x.back(1), 0);
            x.text();
            Check.due("it is gone", x.back(1), -2);
        });
    }

    private static void lay(SeesawPairs x, int k, int... cells) {
        for (int i = 0; i < cells.length; i++) Check.due("lay " + i, x.lay(k, i, cells[i]), 1);
    }

    private static void promise34Sheet() {
        Sentences.holds(34, "A SHEET is a new row of CELLS 0: 1.", () -> {
            for (int lane = 0; lane < 3; lane++) {
                SeesawPairs x = Check.told("banks 3;bridge 1 2 9;bridge 0 1 9;one plain 5 1 1;one plain 5 0 0;one plain 5 2 2;one plain 5 1 1;");
                Check.due("sheet", x.sheet(1, lane, 40), 1);
                for (int i = 0; i < 40; i++) Check.due("lay", x.lay(1, i, 3), 1);
                Check.due("anew", x.sheet(1, lane, 40), 1);
                // every cell in turn is 0: the bridge 0, p 0
                for (int f = 0; f <= 37; f++) {
                    x.lay(1, f + 2, 2);
                    Check.due("cells from " + f, x.read(1, lane, f, 1), 1);
                    x.lay(1, f + 2, 0);
                    x.send(0, 1, 1);
                    x.send(2, 2, 2);
                }
                Check.due("the last cell, too: one and himself", x.read(1, lane, 37, 1), -20);
            }
        });
        Sentences.holds(34, "A SHEET is a new row", () -> {
            for (int anew = 0; anew < 4; anew++) {
                SeesawPairs x = Check.told("bridge 0 1 0;bridge 0 1 9;one plain 5 0 1;one plain 6 1 0;");
                for (int k = 0; k < 4; k++) {
                    x.sheet(k, 0, 40);
                    x.lay(k, 0, 1);
                    x.lay(k, 2, 1);
                    x.lay(k, 37, 1);
                    x.lay(k, 39, 1);
                }
                x.sheet(anew, 0, 40);
                for (int k = 0; k < 4; k++) {
                    // by bridge 1 they can, by bridge 0 they can not, and himself nobody can
                    for (int f : new int[] {0, 37}) {
                        Check.due("sheet " + k + " from " + f + ", where " + anew + " is new", x.read(k, 0, f, 1), k == anew ? -20 : 1);
                        x.send(0, 0, 1);
                        x.send(1, 1, 0);
                    }
                }
            }
        });
        Sentences.holds(34, "BAD: also n above 40", () -> {
            SeesawPairs x = new SeesawPairs();
            Check.due("one of 3", x.sheet(0, 2, 3), 1);
            int[] above = {41, 42, 256, 65536, Integer.MAX_VALUE};
            for (int n : above) Check.due("n " + n, x.sheet(0, 0, n), -1);
            Check.badOutside("sheet k", 0, 3, k -> x.sheet(k, 0, 1));
            Check.badOutside("sheet lane", 0, 2, lane -> x.sheet(0, lane, 1));
            Check.badOutside("sheet k, below 0", 0, 3, k -> x.sheet(k, 0, -1));
            Check.badOutside("sheet lane, below 0", 0, 2, lane -> x.sheet(0, lane, -1));
            Check.due("three cells still", x.count(4), 3);
            for (int k = 1; k < 4; k++) Check.due("nothing still " + k, x.lay(k, 0, 0), -11);
            Check.bounds("sheet k", 0, 3, k -> x.sheet(k, 0, 40));
            Check.bounds("sheet lane", 0, 2, lane -> x.sheet(0, lane, 40));
            Check.due("forty", x.count(4), 40);
            Check.due("of none", x.sheet(0, 0, 0), 1);
            Check.due("none", x.count(4), 0);
        });
        Sentences.holds(34, "-10 - 4", () -> {
            SeesawPairs x = new SeesawPairs();
            int[] below = {-1, -2, -256, -65536, Integer.MIN_VALUE, Integer.MIN_VALUE + 1};
            for (int n : below) Check.due("n " + n, x.sheet(0, 1, n), -14);
            Check.due("nothing still", x.count(4), -4);
            x.sheet(0, 1, 7);
            x.lay(0, 0, 1);
            for (int n : below) Check.due("n " + n, x.sheet(0, 0, n), -14);
            Check.due("seven still", x.count(4), 7);
            x.read(0, 1, 7, 1);
            Check.due("of its lane still", x.torn(), 2);
        });
    }

    private static void promise35Lay() {
        Sentences.holds(35, "CELL i of a SHEET becomes v (its lowest bits): 1.", () -> {
            int[][] numbers = {{256, -256, 257}, {65536, -65536, 65537}, {0, 0, 1}, {0x7fffff00, 0x80000000, 0xffffff01}};
            int[] lanes = {0, 1, 2, 0};
            for (int t = 0; t < numbers.length; t++) {
                SeesawPairs x = Check.told(TWO);
                x.sheet(3, lanes[t], 3);
                lay(x, 3, numbers[t]);
                Check.due("0, 0, 1 of lane " + lanes[t], x.read(3, lanes[t], 0, 1), 1);
            }
            // what is 0, 0, 1 in fewer bits than a cell has, and what is below 0 in as many
            int[][] others = {{0, 0, 129}, {0, 0, 255}, {256, 0, 1}, {0, 0, 32769}, {0, 0, 65535}, {65536, 0, 1}, {0, 0, -1}, {1 << 31, 0, 1}};
            int[] their = {0, 0, 1, 1, 1, 2, 2, 2};
            for (int t = 0; t < others.length; t++) {
                SeesawPairs x = Check.told(TWO);
                x.sheet(3, their[t], 3);
                lay(x, 3, others[t]);
                Check.due("others of lane " + their[t], x.read(3, their[t], 0, 1), -20);
            }
        });
        Sentences.holds(35, "BAD: k", () -> {
            SeesawPairs x = Check.told(TWO);
            for (int k = 0; k < 4; k++) x.sheet(k, 0, 1);
            Check.badOutside("lay k", 0, 3, k -> x.lay(k, 0, 1));
            Check.badOutside("lay k, off the sheet", 0, 3, k -> x.lay(k, -1, 1));
            for (int k = 0; k < 4; k++) Check.due("lay " + k, x.lay(k, 0, 1), 1);
        });
        Sentences.holds(35, "-10 less the FAULT: NULL, INDEX.", () -> {
            SeesawPairs x = new SeesawPairs();
            int[] off = {-1, -2, 5, 6, 40, 256, Integer.MIN_VALUE, Integer.MAX_VALUE};
            for (int k = 0; k < 4; k++) {
                for (int i : off) Check.due("nothing " + k + " " + i, x.lay(k, i, 1), -11);
            }
            for (int k = 0; k < 4; k++) {
                x.sheet(k, k % 3, 5);
                for (int i : off) Check.due("index " + k + " " + i, x.lay(k, i, 1), -12);
                Check.due("the first", x.lay(k, 0, 1), 1);
                Check.due("the last", x.lay(k, 4, 1), 1);
            }
            x.sheet(0, 2, 0);
            Check.due("none", x.lay(0, 0, 1), -12);
            x.sheet(0, 2, 40);
            Check.due("the last of forty", x.lay(0, 39, 1), 1);
            Check.due("behind it", x.lay(0, 40, 1), -12);
            Check.due("no read() was torn", x.torn(), 0);
        });
    }

    /** There and back, and so on: as many as a sheet of 40 has, with one cell behind them. */
    private static SeesawPairs withSheet(int k, int lane) {
        SeesawPairs x = Check.told(TWO);
        x.sheet(k, lane, 40);
        for (int i = 0; i < 13; i++) {
            x.lay(k, 3 * i + 1, i % 2);
            x.lay(k, 3 * i + 2, 1 - i % 2);
        }
        return x;
    }

    private static void read(SeesawPairs x, int lane, int f, int n, int answer, int torn) {
        int before = x.rule(4);
        Check.due("read from " + f + " " + n, x.read(1, lane, f, n), answer);
        Check.due("torn from " + f + " " + n, x.torn(), torn);
        Check.due("crossings from " + f + " " + n, x.rule(4), before + Math.max(0, answer));
    }

    private static void promise36Read() {
        Sentences.holds(36, "n (0 to 13) PAIRS (BRIDGE, p, q) are read of a SHEET", () -> {
            for (int lane = 0; lane < 3; lane++) {
                SeesawPairs x = withSheet(1, lane);
                read(x, lane, 0, 0, 0, 0);
                read(x, lane, 0, 13, 13, 0);
                read(x, lane, 3, 1, 1, 0);
                read(x, lane, 0, 12, 12, 0);
                Check.due("14", x.read(1, lane, 0, 14), -1);
                Check.due("-1", x.read(1, lane, 0, -1), -1);
                Check.due("26 crossed", x.rule(4), 26);
            }
        });
        Sentences.holds(36, "three CELLS each from CELL f on, one behind another as by cross() without STONES: how many crossed.", () -> {
            SeesawPairs x = withSheet(1, 0);
            x.heap(0, 5);
            x.heap(1, 5);
            read(x, 0, 36, 1, 1, 0);
            read(x, 0, 33, 1, 1, 0);
            Check.due("no stones went", x.stones(0) * 10 + x.stones(1), 55);
            x.sheet(1, 0, 3);
            x.lay(1, 2, 1);
            read(x, 0, 0, 1, 1, 0);
            Check.due("p is there", x.one(0, 2), 1);
            Check.due("q is here", x.one(1, 2), 0);
        });
        Sentences.holds(36, "What the machine refuses: those ahead crossed (its FAULT is asked by torn()).", () -> {
            SeesawPairs x = withSheet(1, 2);
            read(x, 2, 0, 13, 13, 0);
            read(x, 2, 3, 13, 12, 2);
            // 13 and 12 are odd together: they are on the other banks now
            read(x, 2, 33, 13, 2, 2);
            read(x, 2, 37, 1, 1, 0);
            read(x, 2, 37, 1, -20, 0);
            read(x, 2, 38, 1, 0, 2);
            read(x, 2, 39, 1, 0, 2);
            read(x, 2, 40, 1, 0, 2);
            int[] off = {-1, -2, -3, -39, Integer.MIN_VALUE, Integer.MIN_VALUE + 2, 41, Integer.MAX_VALUE, Integer.MAX_VALUE - 1, Integer.MAX_VALUE - 36};
            for (int f : off) read(x, 2, f, 13, 0, 2);
            read(x, 0, 33, 1, 0, 3);
            read(x, 1, -1, 1, 0, 3);
            Check.due("nothing", x.read(2, 2, 0, 1), 0);
            Check.due("null", x.torn(), 1);
            Check.due("nothing, of whichever lane", x.read(3, 0, -1, 13), 0);
            Check.due("null", x.torn(), 1);
            x.sheet(1, 2, 0);
            read(x, 2, 0, 1, 0, 2);
            read(x, 2, 0, 0, 0, 0);
        });
    }

    private static void promise36Refused() {
        Sentences.holds(36, "BAD: k, lane, n", () -> {
            SeesawPairs x = withSheet(1, 1);
            x.read(0, 0, 0, 1);
            Check.badOutside("read k", 0, 3, k -> x.read(k, 1, 0, 1));
            Check.badOutside("read lane", 0, 2, lane -> x.read(1, lane, 0, 1));
            Check.badOutside("read n", 0, 13, n -> x.read(1, 1, 0, n));
            Check.badOutside("read n of nothing", 0, 13, n -> x.read(2, 1, -1, n));
            Check.due("nobody crossed", x.rule(4), 0);
            Check.due("it is of the latest that came to an end", x.torn(), 1);
            Check.bounds("read k of none", 0, 3, k -> x.read(k, 1, 0, 0));
            Check.bounds("read lane of none", 0, 2, lane -> x.read(1, lane, 0, 0));
        });
        Sentences.holds(36, "-20 less i: the i-th, whole, is refused by cross() (in whichever way): then none crossed", () -> {
            int[][] refused = {{0, 0, 0}, {1, 0, 1}, {-1, 0, 1}, {0, 2, 1}, {0, 0, 2}, {0, -1, 1}, {0, 0, -1}};
            for (int i = 0; i < 13; i++) {
                SeesawPairs x = withSheet(1, 0);
                int[] cells = refused[i % refused.length];
                for (int c = 0; c < 3; c++) x.lay(1, 3 * i + c, cells[c]);
                Check.due("the first " + i, x.read(1, 0, 0, i), i);
                x.send(0, 0, 1);
                x.send(1, 1, 0);
                Check.due("with that one " + i, x.read(1, 0, 0, 13), -20 - i);
                Check.due("none crossed", x.rule(4), i);
                Check.due("p is where he was", x.one(0, 2), 0);
                Check.due("q is where he was", x.one(1, 2), 1);
            }
            SeesawPairs x = withSheet(1, 0);
            x.weigh(0, 15);
            Check.due("they can not", x.read(1, 0, 0, 1), -20);
            x.weigh(0, 14);
            for (int left = 998; left > 0; left -= 12) x.read(1, 0, 0, Math.min(left, 12));
            Check.due("998 crossed", x.rule(4), 998);
            Check.due("the second would be the 1000th", x.read(1, 0, 0, 2), -21);
            Check.due("none crossed", x.rule(4), 998);
            Check.due("the 999th", x.read(1, 0, 0, 1), 1);
            Check.due("the 1000th", x.read(1, 0, 3, 1), -20);
        });
        Sentences.holds(36, "the first met", () -> {
            SeesawPairs x = Check.told(TWO);
            x.sheet(1, 0, 8);
            lay(x, 1, 0, 0, 1, 0, 0, 1, 9, 9);
            // the second is refused before the third, which is not whole, is looked at
            Check.due("refused", x.read(1, 0, 0, 3), -21);
            Check.due("nobody crossed", x.rule(4), 0);
            lay(x, 1, 0, 0, 1, 0, 1, 0, 9, 9);
            // the third has no third cell: what the machine finds comes before the bridge that there is not
            Check.due("torn", x.read(1, 0, 0, 3), 2);
            Check.due("index", x.torn(), 2);
            Check.due("those ahead crossed", x.rule(4), 2);
            lay(x, 1, 9, 9, 9);
            Check.due("another lane", x.read(1, 1, 0, 1), 0);
            Check.due("cast", x.torn(), 3);
            Check.due("wrong numbers alone", x.read(1, 0, 0, 1), -20);
        });
    }

    private static void promise37Torn() {
        Sentences.holds(37, "The FAULT of the latest read() that came to an end; 0.", () -> {
            SeesawPairs x = withSheet(1, 0);
            Check.due("at first", x.torn(), 0);
            read(x, 0, 38, 1, 0, 2);
            Check.due("BAD", x.read(4, 0, 0, 1), -1);
            Check.due("index still", x.torn(), 2);
            Check.due("refused", x.read(1, 0, 3, 1), -20);
            Check.due("index still", x.torn(), 2);
            Check.due("refused behind one that crossed", x.read(1, 0, 0, 13) + x.read(1, 0, 0, 1), 13 - 20);
            Check.due("of the one that came to an end", x.torn(), 0);
            read(x, 1, 0, 1, 0, 3);
            x.lay(2, 0, 0);
            x.sheet(2, 0, -1);
            Check.due("lay() and sheet() are no read()", x.torn(), 3);
            Check.tell(x, "banks 2;");
            Check.due("nor is text()", x.torn(), 3);
            Check.due("of nothing", x.read(2, 0, 0, 1), 0);
            Check.due("null", x.torn(), 1);
            Check.due("of no pairs", x.read(1, 0, 0, 0), 0);
            Check.due("whole", x.torn(), 0);
        });
        Sentences.holds(0, "1 NULL (nothing), 2 INDEX, 3 CAST (another lane), 4 SIZE (below 0)", () -> {
            SeesawPairs x = new SeesawPairs();
            Check.due("nothing", x.lay(0, 0, 0), -11);
            Check.due("size", x.sheet(0, 0, -1), -14);
            x.sheet(0, 0, 2);
            Check.due("index", x.lay(0, 2, 0), -12);
            for (int lane = 0; lane < 3; lane++) {
                x.sheet(0, lane, 2);
                for (int as = 0; as < 3; as++) {
                    Check.due("read " + lane + " as " + as, x.read(0, as, 0, 1), 0);
                    Check.due("torn " + lane + " as " + as, x.torn(), lane == as ? 2 : 3);
                }
            }
        });
        Sentences.holds(0, "with 0 to 40 CELLS, or nothing (at first)", () -> {
            SeesawPairs x = new SeesawPairs();
            for (int k = 0; k < 4; k++) {
                for (int n : new int[] {0, 1, 39, 40}) {
                    Check.due("sheet " + k + " " + n, x.sheet(k, 2, n), 1);
                    Check.due("behind the last of " + n, x.lay(k, n, 1), -12);
                    if (n > 0) Check.due("the last of " + n, x.lay(k, n - 1, 1), 1);
                }
            }
        });
    }

    private static void promise38Count() {
        Sentences.holds(38, "0 PEOPLE at their GOALS", () -> {
            SeesawPairs x = Check.told("one plain 5 0 0;".repeat(6));
            Check.due("all", x.count(0), 6);
            for (int p = 0; p < 6; p++) {
                x.send(p, 1, 0);
                Check.due("one less", x.count(0), 5 - p);
            }
            Check.due("nobody", new SeesawPairs().count(0), 0);
        });
        Sentences.holds(38, "1 of THE DAY", () -> {
            SeesawPairs x = Check.told(TWO);
            for (int n = 0; n < 8; n++) {
                Check.due("of the day", x.count(1), n);
                x.tell(0, 0, 1);
            }
            x.tell(0, 0, 1);
            Check.due("eight", x.count(1), 8);
        });
        Sentences.holds(38, "2 IMAGES", () -> {
            SeesawPairs x = new SeesawPairs();
            Check.due("none", x.count(2), 0);
            x.keep(1);
            x.keep(1);
            Check.due("one", x.count(2), 1);
            x.keep(0);
            Check.due("two", x.count(2), 2);
            x.back(0);
            Check.due("two", x.count(2), 2);
            x.text();
            Check.due("none", x.count(2), 0);
        });
        Sentences.holds(38, "3 bytes on THE TAPE", () -> {
            SeesawPairs x = new SeesawPairs();
            Check.due("none", x.count(3), 0);
            for (int i = 0; i < 41; i++) x.feed(0L);
            Check.due("all", x.count(3), 320);
            x.end(1);
            Check.due("one", x.count(3), 1);
            x.text();
            Check.due("none", x.count(3), 0);
        });
        Sentences.holds(38, "4 CELLS of SHEET 0 (NONE: nothing)", () -> {
            SeesawPairs x = new SeesawPairs();
            for (int k = 1; k < 4; k++) x.sheet(k, 0, 5);
            Check.due("nothing", x.count(4), -4);
            x.sheet(0, 1, 0);
            Check.due("none", x.count(4), 0);
            x.sheet(0, 2, 40);
            Check.due("forty", x.count(4), 40);
            Check.tell(x, "banks 3;");
            Check.due("a text leaves them", x.count(4), 40);
        });
        Sentences.holds(38, "5 STONES in all. BAD.", () -> {
            SeesawPairs x = Check.told("banks 4;heap 0 20;heap 1 20;heap 2 20;heap 3 20;");
            Check.due("all", x.count(5), 80);
            for (int bank = 0; bank < 4; bank++) x.heap(bank, 0);
            Check.due("none", x.count(5), 0);
            Check.bounds("count", 0, 5, what -> x.count(what));
            Check.bounds("count of a new object", 0, 5, new SeesawPairs()::count);
        });
    }
}
