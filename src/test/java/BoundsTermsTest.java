/** Boundaries that "Terms" names (here promise 0): what there is, the tape, its tokens, lines, faults. */
public final class BoundsTermsTest {
    public static void main(String[] args) {
        ask();
        Sentences.finish(0, 0);
    }

    static void ask() {
        whatThereIs();
        tape();
        lines();
        faults();
        taken();
        calls();
    }

    private static void whatThereIs() {
        Sentences.holds(0, "public static final int BAD = -1, STATE = -2, FULL = -3, NONE = -4;", () -> {
            Check.due("BAD", SeesawPairs.BAD, -1);
            Check.due("STATE", SeesawPairs.STATE, -2);
            Check.due("FULL", SeesawPairs.FULL, -3);
            Check.due("NONE", SeesawPairs.NONE, -4);
        });
        Sentences.holds(0, "BANKS 0 on (2 to 4; 2)", BoundsTermsTest::banks);
        Sentences.holds(0, "each with STONES (0 to 20; 0)", BoundsTermsTest::stones);
        Sentences.holds(0, "BRIDGES (4 at most), by order", BoundsTermsTest::bridges);
        Sentences.holds(0, "each from a BANK to another one", () -> {
            for (int bank = 0; bank < 4; bank++) Check.refused("banks 4;bridge " + bank + " " + bank + " 5;", 4, 17);
            Check.due("there and back", Check.told("bridge 0 1 5;bridge 1 0 5;").rule(1), 2);
        });
        Sentences.holds(0, "with a PLAY (0 to 20)", () -> {
            SeesawPairs x = Check.told("bridge 0 1 0;bridge 0 1 20;");
            Check.due("play 0", x.bridge(0, 2), 0);
            Check.due("play 20", x.bridge(1, 2), 20);
            Check.refused("bridge 0 1 21;", 3, 11);
            Check.refused("bridge 0 1 99;", 3, 11);
        });
        Sentences.holds(0, "PEOPLE (6 at most)", () -> {
            SeesawPairs x = Check.told("one plain 1 0 0;".repeat(6));
            Check.due("six", x.rule(2), 6);
            Check.due("the sixth", x.one(5, 1), 1);
            Check.refused("one plain 1 0 0;".repeat(7), 5, 96);
        });
        Sentences.holds(0, "a WEIGHT (1 to 99)", () -> {
            SeesawPairs x = Check.told("one plain 1 0 0;one plain 99 0 0;");
            Check.due("1", x.one(0, 1), 1);
            Check.due("99", x.one(1, 1), 99);
            Check.refused("one plain 0 0 0;", 3, 10);
            Check.refused("one plain 00 0 0;", 3, 10);
            Check.refused("one plain 100 0 0;", 1, 10);
        });
        Sentences.holds(0, "A STONE weighs 1 to 9 (3)", BoundsTermsTest::stoneWeight);
        Sentences.holds(0, "CROSSINGS (how many were made; 0 at first)", () -> {
            Check.due("at first", new SeesawPairs().rule(4), 0);
            SeesawPairs x = Check.told("bridge 0 1 9;one plain 5 0 1;one plain 5 1 0;");
            Check.due("told", x.rule(4), 0);
            x.cross(0, 0, 1, 0, 0);
            x.cross(0, 0, 1, 0, 0);
            Check.due("one was made, one was refused", x.rule(4), 1);
        });
    }

    private static void banks() {
        SeesawPairs x = Check.told("stone 3;");
        Check.due("two where no text tells them", x.rule(0), 2);
        Check.due("banks 2", Check.tell(x, "banks 2;"), 1);
        Check.due("two", x.rule(0), 2);
        Check.due("banks 4", Check.tell(x, "banks 4;"), 1);
        Check.due("four", x.rule(0), 4);
        Check.due("two again", Check.tell(x, "stone 3;"), 1);
        Check.due("two again", x.rule(0), 2);
        Check.refused("banks 0;", 3, 6);
        Check.refused("banks 1;", 3, 6);
        Check.refused("banks 5;", 3, 6);
    }

    private static void stones() {
        SeesawPairs x = Check.told("banks 4;heap 0 20;heap 2 1;bridge 0 1 9;one plain 5 0 1;one plain 5 1 0;");
        int[] due = {20, 0, 1, 0};
        for (int bank = 0; bank < 4; bank++) Check.due("stones " + bank, x.stones(bank), due[bank]);
        x.heap(0, 1);
        Check.due("the last stone goes", x.cross(0, 0, 1, 1, 0), 1);
        Check.due("none is left", x.stones(0), 0);
        x.heap(0, 19);
        Check.due("the twentieth comes", x.cross(0, 1, 0, 0, 1), 2);
        Check.due("twenty", x.stones(0), 20);
        Check.due("and none there", x.stones(1), 0);
        Check.tell(x, "banks 4;");
        for (int bank = 0; bank < 4; bank++) Check.due("none are told " + bank, x.stones(bank), 0);
    }

    private static void bridges() {
        SeesawPairs x = Check.told("banks 4;bridge 3 2 7;bridge 0 1 8;bridge 1 3 9;bridge 3 0 10;");
        int[][] due = {{3, 2, 7}, {0, 1, 8}, {1, 3, 9}, {3, 0, 10}};
        for (int b = 0; b < 4; b++) {
            for (int what = 0; what < 3; what++) Check.due("bridge " + b + " " + what, x.bridge(b, what), due[b][what]);
        }
        Check.due("four", x.rule(1), 4);
        Check.refused("bridge 0 1 1;".repeat(5), 5, 52);
    }

    private static void stoneWeight() {
        SeesawPairs x = Check.told("stone 1;");
        Check.due("1", x.rule(3), 1);
        Check.tell(x, "stone 9;");
        Check.due("9", x.rule(3), 9);
        Check.tell(x, "banks 3;");
        Check.due("3 where no text tells it", x.rule(3), 3);
        Check.refused("stone 0;", 3, 6);
        Check.refused("stone 10;", 3, 6);
    }

    private static void tape() {
        Sentences.holds(0, "THE TAPE has 320 bytes, places from 0", () -> {
            Check.refused("$" + " ".repeat(319), 1, 0);
            Check.refused(" ".repeat(319) + "$", 1, 319);
            Check.refused(" ".repeat(315) + "banks", 2, 320);
            SeesawPairs x = Check.told(" ".repeat(312) + "banks 3;");
            Check.due("the last bytes are read", x.rule(0), 3);
        });
        Sentences.holds(0, "TOKENS, each as long as may be", () -> {
            Check.refused("bankss 3;", 2, 0);
            Check.refused("bank s 3;", 2, 0);
            Check.refused("banksbanks 3;", 2, 0);
            Check.refused("banks 33;", 3, 6);
            Check.refused("banks 3 3;", 2, 8);
            Check.due("a NAME ends at a figure", Check.told("banks3;").rule(0), 3);
            Check.due("a NUMBER ends at a letter", Check.tell(new SeesawPairs(), "banks 3x;"), -17);
        });
        Sentences.holds(0, "blanks (32) between", () -> {
            Check.due("none", Check.told("one plain 7 1 0;heap1 2;").one(0, 1), 7);
            Check.due("many", Check.told("   one   plain   7   1   0   ;   ").one(0, 1), 7);
            int[] others = {0, 9, 10, 13, 31, 33, 127, 128, 160, 255};
            for (int sign : others) Check.refused("banks" + (char) sign + "3;", 1, 5);
        });
        Sentences.holds(0, "NAMES (a .. z)", () -> {
            char[] others = {'`', '{', 'A', 'Z', '@', '[', (char) ('a' + 128), (char) ('z' + 128)};
            for (char sign : others) Check.refused(sign + " 3;", 1, 0);
            for (char sign : new char[] {'a', 'z'}) Check.refused(sign + " 3;", 2, 0);
            Check.refused("Banks 3;", 1, 0);
            Check.refused("banKs 3;", 2, 0);
        });
        Sentences.holds(0, "NUMBERS (1 or 2 figures)", () -> {
            for (char sign : new char[] {'/', ':', '-', '+', (char) ('0' + 128)}) Check.refused("heap " + sign + " 3;", 1, 5);
            for (char sign : new char[] {'0', '9'}) Check.refused(sign + ";", 2, 0);
            Check.due("one figure", Check.told("stone 9;").rule(3), 9);
            Check.due("two figures", Check.told("stone 09;").rule(3), 9);
            Check.refused("stone 009;", 1, 6);
        });
    }

    private static void lines() {
        Sentences.holds(0, "heap: BANK (0 to 3), STONES (1 to 20)", () -> {
            SeesawPairs x = Check.told("banks 4;heap 0 1;heap 3 20;");
            Check.due("of bank 0", x.stones(0), 1);
            Check.due("of bank 3", x.stones(3), 20);
            Check.refused("banks 4;heap 4 1;", 3, 13);
            Check.refused("banks 4;heap 0 0;", 3, 15);
            Check.refused("banks 4;heap 0 21;", 3, 15);
        });
        Sentences.holds(0, "bridge: two BANKS, PLAY", () -> {
            SeesawPairs x = Check.told("banks 4;bridge 0 3 0;bridge 3 0 20;");
            Check.due("from bank 0", x.bridge(0, 0), 0);
            Check.due("to bank 3", x.bridge(0, 1), 3);
            Check.due("from bank 3", x.bridge(1, 0), 3);
            Check.refused("banks 4;bridge 4 0 5;", 3, 15);
            Check.refused("banks 4;bridge 0 4 5;", 3, 17);
        });
        Sentences.holds(0, "one: KIND, WEIGHT, BANK, GOAL", () -> {
            SeesawPairs x = Check.told("banks 4;one plain 2 0 3;one stout 3 3 0;");
            int[][] due = {{0, 2, 0, 3}, {4, 3, 3, 0}};
            for (int p = 0; p < 2; p++) {
                for (int what = 0; what < 4; what++) Check.due("one " + p + " " + what, x.one(p, what), due[p][what]);
            }
            Check.refused("banks 4;one plain 1 4 0;", 3, 20);
            Check.refused("banks 4;one plain 1 0 4;", 3, 22);
        });
        Sentences.holds(0, "meet: of the told DAY (8 at most) the next one", () -> {
            String start = "bridge 0 1 9;one plain 5 0 1;one plain 5 1 0;";
            SeesawPairs x = Check.told(start + "meet 0 0 1;meet 0 1 0;".repeat(4));
            Check.due("eight", x.count(1), 8);
            Check.due("one behind another", x.judge(), -4);
            Check.refused(start + "meet 0 0 1;".repeat(9), 5, start.length() + 88);
        });
        Sentences.holds(0, "BRIDGE (0 to 3), two ONES (0 to 5), that from its first BANK ahead", () -> {
            String start = "bridge 0 1 9;".repeat(4) + "one plain 5 0 1;".repeat(5) + "one plain 5 1 0;";
            SeesawPairs x = Check.told(start + "meet 3 0 5;meet 0 5 0;");
            Check.due("the most that can be", x.judge(), -4);
            Check.tell(x, start + "meet 3 5 0;");
            Check.due("that from its second bank ahead", x.judge(), 0);
            String other = "banks 4;bridge 0 1 9;bridge 1 2 9;bridge 2 3 9;bridge 3 0 9;" + "one plain 5 0 0;one plain 5 1 0;one plain 5 2 0;one plain 5 3 0;";
            Check.tell(x, other + "meet 0 0 1;meet 1 0 2;meet 2 0 3;meet 3 0 1;meet 0 0 2;meet 1 0 3;meet 2 0 1;meet 3 0 2;");
            Check.due("all bridges, in turn", x.judge(), -4);
            Check.refused(start + "meet 4 0 5;", 3, start.length() + 5);
            Check.refused(start + "meet 0 6 5;", 3, start.length() + 7);
            Check.refused(start + "meet 0 5 6;", 3, start.length() + 9);
        });
    }

    private static void faults() {
        Sentences.holds(0, "1 no TOKEN, a NUMBER that is too long (its first byte)", () -> {
            Check.refused("  #", 1, 2);
            Check.refused("banks 3#", 1, 7);
            Check.refused("banks 3;.", 1, 8);
            Check.refused("banks  100;", 1, 7);
            Check.refused("one plain 5 0 12345;", 1, 14);
            Check.refused("banks 3 100", 1, 8);
        });
        Sentences.holds(0, "a NAME that begins no line, is no K; or the end: the length", () -> {
            Check.refused(" plain 3;", 2, 1);
            Check.refused("ban 3;", 2, 0);
            Check.refused("one banks 5 0 0;", 2, 4);
            Check.refused("one chil 5 0 0;", 2, 4);
            Check.refused("one childs 5 0 0;", 2, 4);
            Check.refused("one ; 5 0 0;", 2, 4);
            String whole = "one plain 5 0 0";
            int[] ends = {3, 9, 11, 13, 15};
            for (int end : ends) Check.refused(whole.substring(0, end), 2, end);
            for (int end : ends) Check.refused(whole.substring(0, end) + "  ", 2, end + 2);
            Check.refused("banks 3;heap", 2, 12);
            for (String word : new String[] {"banks 2;", "stone 3;", "heap 0 1;", "bridge 0 1 1;", "one plain 1 0 0;", "meet 0 0 1;"}) {
                otherLetters(word, 0, word.indexOf(' '));
            }
            for (String kind : new String[] {"plain", "exile", "carrier", "child", "stout"}) {
                otherLetters("one " + kind + " 1 0 0;", 4, 4 + kind.length());
            }
        });
        Sentences.holds(0, "2 a TOKEN that can not stand there", () -> {
            Check.refused("7;", 2, 0);
            Check.refused("banks 3;;", 2, 8);
            Check.refused("banks;", 2, 5);
            Check.refused("banks 3 stone 4;", 2, 8);
            Check.refused("bridge 0 1;", 2, 10);
            Check.refused("bridge 0 1 2 3;", 2, 13);
            Check.refused("one 5 0 0;", 2, 4);
            Check.refused("meet 0 plain 1;", 2, 7);
        });
        Sentences.holds(0, "3 a NUMBER out of its bounds", () -> {
            String[] texts = {"banks 1;", "stone 0;", "heap 4 1;", "bridge 4 1 1;", "one plain 0 0 0;", "meet 4 0 1;"};
            int[] places = {6, 6, 5, 7, 10, 5};
            for (int i = 0; i < texts.length; i++) Check.refused(texts[i], 3, places[i]);
        });
        Sentences.holds(0, "4 banks, stone for the second time (its NAME)", () -> {
            Check.refused("banks 3; banks 3;", 4, 9);
            Check.refused("banks 2;stone 3;banks", 4, 16);
            Check.refused("stone 3; stone 3;", 4, 9);
            Check.refused("stone 3;banks 2;stone $", 4, 16);
        });
        Sentences.holds(0, "a BANK that has a heap already (it)", () -> {
            Check.refused("heap 0 1;heap 0 1;", 4, 14);
            Check.refused("heap 3 20;heap 0 1;heap 03 99;", 4, 24);
            Check.due("another one", Check.told("heap 0 1;heap 1 1;").count(5), 2);
        });
        Sentences.holds(0, "a BANK and itself, a ONE and himself (the second one)", () -> {
            Check.refused("bridge 1 1 99;", 4, 9);
            Check.refused("bridge 3 03;", 4, 9);
            Check.refused("meet 0 5 5;", 4, 9);
            Check.refused("meet 3 0 00;", 4, 9);
        });
        Sentences.holds(0, "5 the 5th bridge, the 7th one, the 9th meet (its NAME)", () -> {
            Check.refused("bridge 0 1 1;".repeat(4) + " bridge 9 9 99;", 5, 53);
            Check.refused("one plain 1 0 0;".repeat(6) + " one goat", 5, 97);
            Check.refused("meet 0 0 1;".repeat(8) + " meet", 5, 89);
        });
        Sentences.holds(0, "Behind all (the length): 6 a BANK, a BRIDGE, a ONE that there is not", BoundsTermsTest::missing);
        Sentences.holds(0, "the first met as it is read (a TOKEN is read when the one before has been taken)", () -> {
            Check.refused("heap 3 1;banks 5;#", 3, 15);
            Check.refused("heap 3 1;banks 2;banks 2;", 4, 17);
            Check.refused("banks 2;banks #", 4, 8);
            Check.refused("ban#ks", 2, 0);
            Check.refused("banks#", 1, 5);
            Check.refused("banks 5#", 3, 6);
            Check.refused("bridge 0 0 #", 4, 9);
            Check.refused("heap 1 1;heap 1 100;", 4, 14);
            Check.refused("one goat 100;", 2, 4);
        });
    }

    /** With another letter in each of the places, and with the last one left out, it is no NAME of a line, no K. */
    private static void otherLetters(String line, int from, int to) {
        for (int at = from; at < to; at++) Check.refused(line.substring(0, at) + "z" + line.substring(at + 1), 2, from);
        Check.refused(line.substring(0, to - 1) + line.substring(to), 2, from);
        Check.refused(line.substring(0, to) + "s" + line.substring(to), 2, from);
    }

    private static void missing() {
        String[] banks = {"heap 2 1;", "heap 3 1;", "bridge 2 0 1;", "bridge 0 2 1;", "one plain 1 2 0;", "one plain 1 0 2;"};
        for (String text : banks) {
            Check.refused(text, 6, text.length());
            Check.refused(text + " banks 2; ", 6, text.length() + 10);
            Check.due("banks 4 behind it", Check.tell(new SeesawPairs(), text + "banks 4;"), 2);
        }
        Check.refused("banks 3;heap 3 1;", 6, 17);
        Check.refused("banks 3;bridge 3 0 1;", 6, 21);
        Check.refused("banks 3;bridge 0 3 1;", 6, 21);
        Check.refused("banks 3;one plain 1 3 0;", 6, 24);
        Check.refused("banks 3;one plain 1 0 3;", 6, 24);
        String two = "one plain 1 0 0;one plain 1 1 1;";
        Check.refused(two + "meet 0 0 1;", 6, 43);
        Check.refused(two + "bridge 0 1 1;meet 1 0 1;", 6, 56);
        Check.refused(two + "bridge 0 1 1;meet 0 2 1;", 6, 56);
        Check.refused(two + "bridge 0 1 1;meet 0 0 2;", 6, 56);
        Check.due("told behind it", Check.tell(new SeesawPairs(), "meet 0 0 1;bridge 0 1 1;" + two), 4);
    }

    private static void taken() {
        Sentences.holds(0, "A text that is taken tells all, in place of what there was; IMAGES are gone.", () -> {
            SeesawPairs x = Check.told("banks 4;" + Check.EXAMPLE.substring(8));
            x.cross(0, 0, 3, 0, 0);
            x.keep(0);
            x.keep(1);
            Check.due("nothing is told", Check.tell(x, ""), 0);
            int[] rules = {2, 0, 0, 3, 0};
            for (int what = 0; what < 5; what++) Check.due("rule " + what, x.rule(what), rules[what]);
            Check.due("no day", x.count(1), 0);
            Check.due("no images", x.count(2), 0);
            Check.due("image 0 is gone", x.back(0), -2);
            Check.due("image 1 is gone", x.fits(1, 0, 0), -2);
            Check.due("no stones", x.count(5), 0);
            Check.due("no bridge", x.bridge(0, 0), -1);
            Check.due("nobody", x.one(0, 0), -1);
            Check.tell(x, "banks 4;");
            for (int bank = 0; bank < 4; bank++) Check.due("no stones on " + bank, x.stones(bank), 0);
        });
        Sentences.holds(0, "in place of what there was", () -> {
            String[] longer = {"bridge 0 1 9;".repeat(4) + "one plain 5 0 1;one plain 5 1 0;".repeat(3) + "meet 0 0 1;".repeat(8),
                "banks 4;heap 3 9;bridge 3 2 9;bridge 2 3 9;" + "one plain 5 3 2;one stout 5 2 3;".repeat(3) + "meet 1 3 2;".repeat(8)};
            String[] shorter = {"", "bridge 0 1 9;", "one plain 5 0 1;", "bridge 0 1 9;one plain 5 0 1;", "bridge 1 0 9;one plain 5 0 1;",
                "one plain 5 0 1;one plain 5 1 0;", "banks 4;bridge 2 3 9;one plain 5 2 3;", "bridge 0 1 9;one plain 5 0 1;one plain 5 1 0;meet 0 0 1;"};
            for (String before : longer) {
                for (String text : shorter) {
                    SeesawPairs x = Check.told(before);
                    Check.due("taken: " + text, Check.tell(x, text), Check.tell(new SeesawPairs(), text));
                    boolean alike = Answers.of(x).equals(Answers.of(Check.told(text)));
                    Check.due("as if it were all that was ever told: " + text, alike ? 1 : 0, 1);
                }
            }
        });
    }

    private static void calls() {
        Sentences.holds(0, "at most 512 calls", () -> {
            // what is dearest, asked 480 times behind the 32 calls or so of a text
            SeesawPairs x = Check.told("bridge 0 1 9;".repeat(4) + "one plain 5 0 1;".repeat(3) + "one plain 5 1 0;".repeat(3));
            x.keep(0);
            for (int turn = 0; turn < 96; turn++) {
                Check.due("hire", x.hire(0, 0, 1), 3);
                Check.due("heaved", x.heaved(3, 0), 3);
                Check.due("fits", x.fits(0, 4, 0), 94464);
                Check.due("plan", x.plan(0), 3);
                Check.due("feed", x.feed(0L), turn < 40 ? 8 * turn + 8 : -3);
            }
        });
    }
}
