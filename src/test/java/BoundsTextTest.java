/** Boundaries that promises 1 to 9 name: a new object, feed, end, text, fault, rule, bridge, one, stones. */
public final class BoundsTextTest {
    public static void main(String[] args) {
        ask();
        Sentences.finish(1, 9);
    }

    static void ask() {
        promise1New();
        promise2Feed();
        promise3End();
        promise4Text();
        promise5Fault();
        promises6To9();
    }

    private static void promise1New() {
        Sentences.holds(1, "Two BANKS", () -> {
            SeesawPairs x = new SeesawPairs();
            Check.due("rule(0)", x.rule(0), 2);
            Check.bounds("stones", 0, 1, x::stones);
            Check.bounds("heap", 0, 1, bank -> x.heap(bank, 0));
            Check.bounds("feast", 0, 1, bank -> x.feast(bank, 1));
            for (int bank = 0; bank < 2; bank++) Check.due("no stones", x.stones(bank), 0);
            Check.due("what a stone weighs", x.rule(3), 3);
        });
        Sentences.holds(1, "no BRIDGES", () -> {
            SeesawPairs x = new SeesawPairs();
            Check.due("rule(1)", x.rule(1), 0);
            for (int what = 0; what < 3; what++) Check.due("bridge", x.bridge(0, what), -1);
            Check.due("play", x.play(0, 0), -1);
            Check.due("errands", x.errands(0, 0), -1);
            Check.due("heaved", x.heaved(0, 0), -1);
            Check.due("hire", x.hire(0, 0, 0), -1);
            Check.due("tell", x.tell(0, 0, 1), -1);
            Check.due("season", x.season(1, 1, 0), -2);
            Check.due("crossings", x.rule(4), 0);
        });
        Sentences.holds(1, "nobody", () -> {
            SeesawPairs x = new SeesawPairs();
            Check.due("rule(2)", x.rule(2), 0);
            for (int what = 0; what < 4; what++) Check.due("one", x.one(0, what), -1);
            Check.due("weigh", x.weigh(0, 1), -1);
            Check.due("send", x.send(0, 0, 0), -1);
            Check.due("reach", x.reach(0), -1);
            Check.due("late", x.late(0), -1);
            Check.due("feast", x.feast(0, 1), 0);
            Check.due("plan", x.plan(0), 0);
            Check.due("plan 10", x.plan(10), -4);
            Check.due("ways", x.ways(), 1);
            Check.due("judge", x.judge(), -4);
            Check.due("at their goals", x.count(0), 0);
        });
        Sentences.holds(1, "SHEETS have nothing", () -> {
            SeesawPairs x = new SeesawPairs();
            for (int k = 0; k < 4; k++) {
                Check.due("lay " + k, x.lay(k, 0, 0), -11);
                for (int lane = 0; lane < 3; lane++) Check.due("read " + k, x.read(k, lane, 0, 1), 0);
                Check.due("torn " + k, x.torn(), 1);
            }
            Check.due("count(4)", x.count(4), -4);
        });
        Sentences.holds(1, "SeesawPairs()", () -> {
            SeesawPairs other = Check.told(Check.EXAMPLE);
            other.keep(0);
            other.feed(1L);
            other.sheet(0, 0, 3);
            other.read(1, 0, 0, 1);
            SeesawPairs x = new SeesawPairs();
            int[] counts = {0, 0, 0, 0, -4, 0};
            for (int what = 0; what < 6; what++) Check.due("an object of its own " + what, x.count(what), counts[what]);
            Check.due("fault", x.fault(), 0);
            Check.due("torn", x.torn(), 0);
            for (int k = 0; k < 2; k++) Check.due("back " + k, x.back(k), -2);
            Check.due("forget", x.forget(0), 0);
            Check.due("end", x.end(0), 0);
            Check.due("text", x.text(), 0);
        });
    }

    private static void promise2Feed() {
        Sentences.holds(2, "Eight bytes come behind THE TAPE", () -> {
            SeesawPairs x = new SeesawPairs();
            Check.due("eight", x.feed(0x62616e6b73202020L), 8);
            Check.due("five", x.end(5), 8);
            Check.due("behind the fifth", x.feed(0x333b202020202020L), 13);
            Check.due("banks3;", x.text(), 1);
            Check.due("three", x.rule(0), 3);
            Check.due("behind an empty one", x.feed(0L), 8);
        });
        Sentences.holds(2, "the highest first", () -> {
            SeesawPairs x = new SeesawPairs();
            x.feed(0x62616e6b7320343bL);
            Check.due("banks 4;", x.text(), 1);
            Check.due("four", x.rule(0), 4);
            // one byte that is no token, in each of the eight places: it is all that is found
            for (int place = 0; place < 8; place++) {
                long blanks = 0x2020202020202020L;
                for (int sign : new int[] {0, 127, 128, 255}) {
                    x.feed(blanks & ~(255L << 56 - 8 * place) | (long) sign << 56 - 8 * place);
                    Check.due("at " + place, x.text(), -10 - place);
                    Check.due("no token", x.fault(), 1);
                }
            }
        });
        Sentences.holds(2, "FULL: more than 320", () -> {
            SeesawPairs x = new SeesawPairs();
            for (int i = 1; i <= 40; i++) Check.due("feed " + i, x.feed(0x2020202020202020L), 8 * i);
            Check.due("the 41st", x.feed(-1L), -3);
            Check.due("320 still", x.count(3), 320);
            for (int n = 319; n > 312; n--) {
                x.end(n);
                Check.due("at " + n, x.feed(-1L), -3);
                Check.due("no byte came", x.count(3), n);
            }
            Check.due("312", x.end(312), 313);
            Check.due("at 312", x.feed(0x62616e6b7320343bL), 320);
            Check.due("again", x.feed(0L), -3);
            Check.due("banks 4;", x.text(), 1);
            Check.due("behind a text", x.feed(0L), 8);
        });
    }

    private static void promise3End() {
        Sentences.holds(3, "THE TAPE keeps its first n bytes: how many it had.", () -> {
            SeesawPairs x = new SeesawPairs();
            Check.due("an empty one", x.end(0), 0);
            x.feed(0x62616e6b7320333bL);
            Check.due("all of it", x.end(8), 8);
            Check.due("all but one", x.end(7), 8);
            Check.due("its length is 7", x.text(), -17);
            x.feed(0x62616e6b7320333bL);
            Check.due("none of it", x.end(0), 8);
            Check.due("empty", x.count(3), 0);
            Check.due("a text of nothing", x.text(), 0);
            Check.due("two banks", x.rule(0), 2);
            for (int i = 0; i < 40; i++) x.feed(0x2020202020202020L);
            Check.due("all of 320", x.end(320), 320);
        });
        Sentences.holds(3, "BAD.", () -> {
            SeesawPairs x = new SeesawPairs();
            Check.bounds("end of nothing", 0, 0, x::end);
            x.feed(0L);
            Check.badOutside("end", 0, 8, x::end);
            Check.due("eight still", x.count(3), 8);
            for (int i = 0; i < 39; i++) x.feed(0L);
            Check.badOutside("end of all", 0, 320, x::end);
            Check.due("320 still", x.count(3), 320);
        });
    }

    private static void promise4Text() {
        Sentences.holds(4, "(empty then)", () -> {
            SeesawPairs x = new SeesawPairs();
            x.feed(0x62616e6b7320333bL);
            x.text();
            Check.due("of a text that is taken", x.count(3), 0);
            x.feed(0L);
            x.text();
            Check.due("of a text that is refused", x.count(3), 0);
            Check.due("nothing of it is left", x.text(), 0);
        });
        Sentences.holds(4, "how many lines", () -> {
            SeesawPairs x = new SeesawPairs();
            Check.due("none", x.text(), 0);
            Check.due("blanks alone", Check.tell(x, " ".repeat(320)), 0);
            Check.due("one", Check.tell(x, "banks 2;"), 1);
            StringBuilder most = new StringBuilder("banks 4;stone 9;");
            for (int bank = 0; bank < 4; bank++) most.append("heap ").append(bank).append(" 20;");
            most.append("bridge 3 2 20;".repeat(4)).append("one child99 0 1;".repeat(6)).append("meet 3 4 5;".repeat(8));
            Check.due("as many as there can be", Check.tell(x, most.toString()), 24);
            Check.due("stones", x.count(5), 80);
            Check.due("told", x.count(1), 8);
        });
        Sentences.holds(4, "-10 less the place of its FAULT", () -> {
            SeesawPairs x = new SeesawPairs();
            Check.due("place 0", Check.tell(x, "?"), -10);
            Check.due("place 1", Check.tell(x, " ?"), -11);
            Check.due("place 319", Check.tell(x, " ".repeat(319) + "?"), -329);
            Check.due("the length", Check.tell(x, " ".repeat(316) + "heap"), -330);
        });
        Sentences.holds(4, "that which was told stays", () -> {
            SeesawPairs x = Check.told(Check.EXAMPLE);
            x.cross(0, 0, 3, 0, 0);
            x.keep(1);
            x.sheet(0, 1, 5);
            String[] texts = {"banks 4;stone 9;heap 0 1;#", "bridge 0 1 9;one plain 1 1 1;meet 0 0 1;", "heap 3 3;"};
            for (String text : texts) {
                Check.due("refused", Check.tell(x, text) < -9 ? 1 : 0, 1);
                int[] rules = {3, 3, 6, 4, 1};
                for (int what = 0; what < 5; what++) Check.due("rule " + what, x.rule(what), rules[what]);
                int[] counts = {1, 4, 1, 0, 5, 14};
                for (int what = 0; what < 6; what++) Check.due("count " + what, x.count(what), counts[what]);
                Check.due("where one came", x.one(0, 2), 1);
                Check.due("a weight", x.one(0, 1), 40);
                Check.due("a play", x.bridge(0, 2), 5);
                Check.due("stones", x.stones(0), 5);
            }
            Check.due("the image", x.back(1), 1);
        });
    }

    private static void promise5Fault() {
        Sentences.holds(5, "The FAULT of the latest text(); 0.", () -> {
            SeesawPairs x = new SeesawPairs();
            Check.due("at first", x.fault(), 0);
            String[] texts = {"#", "z", "banks 9;", "banks 2;banks 2;", "bridge 0 1 1;".repeat(5), "heap 3 1;"};
            for (int i = 0; i < texts.length; i++) {
                Check.tell(x, texts[i]);
                Check.due("fault of " + texts[i], x.fault(), i + 1);
                x.feed(0L);
                x.end(0);
                x.read(0, 0, 0, 1);
                Check.due("until the next text", x.fault(), i + 1);
            }
            Check.due("a text of nothing", x.text(), 0);
            Check.due("has none", x.fault(), 0);
            Check.tell(x, "#");
            Check.tell(x, "banks 3;");
            Check.due("a text that is taken has none", x.fault(), 0);
        });
    }

    private static void promises6To9() {
        Sentences.holds(6, "0 BANKS, 1 BRIDGES, 2 PEOPLE, 3 what a STONE weighs, 4 CROSSINGS. BAD.", () -> {
            SeesawPairs x = Check.told("banks 4;stone 8;bridge 0 1 9;one plain 5 0 1;one plain 5 1 0;");
            x.cross(0, 0, 1, 0, 0);
            x.cross(0, 1, 0, 0, 0);
            x.cross(0, 0, 1, 0, 0);
            int[] due = {4, 1, 2, 8, 3};
            for (int what = 0; what < 5; what++) Check.due("rule " + what, x.rule(what), due[what]);
            Check.bounds("rule", 0, 4, x::rule);
        });
        Sentences.holds(7, "0 its first BANK, 1 the second one, 2 PLAY. BAD.", () -> {
            SeesawPairs x = Check.told("banks 4;bridge 2 3 0;bridge 3 1 20;");
            int[][] due = {{2, 3, 0}, {3, 1, 20}};
            for (int b = 0; b < 2; b++) {
                for (int what = 0; what < 3; what++) Check.due("bridge " + b + " " + what, x.bridge(b, what), due[b][what]);
            }
            for (int what = 0; what < 3; what++) {
                int of = what;
                Check.bounds("bridge", 0, 1, b -> x.bridge(b, of));
            }
            for (int b = 0; b < 2; b++) {
                int of = b;
                Check.bounds("bridge what", 0, 2, what -> x.bridge(of, what));
            }
            SeesawPairs four = Check.told("bridge 0 1 1;".repeat(4));
            Check.bounds("of four", 0, 3, b -> four.bridge(b, 2));
        });
        Sentences.holds(8, "0 KIND, 1 WEIGHT, 2 BANK, 3 GOAL. BAD.", () -> {
            SeesawPairs x = Check.told("banks 4;one plain 1 0 3;one exile 2 1 2;one carrier 3 2 1;one child 4 3 0;one stout 99 0 0;");
            int[][] due = {{0, 1, 0, 3}, {1, 2, 1, 2}, {2, 3, 2, 1}, {3, 4, 3, 0}, {4, 99, 0, 0}};
            for (int p = 0; p < 5; p++) {
                int of = p;
                for (int what = 0; what < 4; what++) Check.due("one " + p + " " + what, x.one(p, what), due[p][what]);
                Check.bounds("one what", 0, 3, what -> x.one(of, what));
            }
            for (int what = 0; what < 4; what++) {
                int of = what;
                Check.bounds("one", 0, 4, p -> x.one(p, of));
            }
            SeesawPairs six = Check.told("one plain 1 0 0;".repeat(6));
            Check.bounds("of six", 0, 5, p -> six.one(p, 1));
        });
        Sentences.holds(9, "STONES of a BANK. BAD.", () -> {
            for (int banks = 2; banks <= 4; banks++) {
                SeesawPairs x = Check.told("banks " + banks + ";heap 0 20;heap " + (banks - 1) + " 7;");
                Check.due("of the first", x.stones(0), 20);
                Check.due("of the last", x.stones(banks - 1), 7);
                Check.bounds("stones", 0, banks - 1, x::stones);
            }
        });
    }
}
