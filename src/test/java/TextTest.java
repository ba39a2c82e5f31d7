/** Promises 1 to 9: a new object, feed, end, text, fault, rule, bridge, one, stones. */
public final class TextTest {
    public static void main(String[] args) {
        newObject();
        tape();
        taken();
        faults();
        rows();
        Check.finish();
    }

    private static void newObject() {
        SeesawPairs x = new SeesawPairs();
        int[] rules = {2, 0, 0, 3, 0};
        for (int what = 0; what < 5; what++) Check.due("new rule " + what, x.rule(what), rules[what]);
        Check.due("new fault", x.fault(), 0);
        Check.due("new torn", x.torn(), 0);
        int[] counts = {0, 0, 0, 0, SeesawPairs.NONE, 0};
        for (int what = 0; what < 6; what++) Check.due("new count " + what, x.count(what), counts[what]);
        for (int bank = 0; bank < 2; bank++) Check.due("new stones", x.stones(bank), 0);
        Check.due("new stones 2", x.stones(2), -1);
        Check.due("new stones -1", x.stones(-1), -1);
        Check.due("new bridge", x.bridge(0, 0), -1);
        Check.due("new one", x.one(0, 0), -1);
        for (int k = 0; k < 4; k++) Check.due("new sheet " + k, x.lay(k, 0, 0), -11);
        Check.due("new ways", x.ways(), 1);
        Check.due("new plan", x.plan(0), 0);
        Check.due("new plan 10", x.plan(10), -4);
    }

    private static void tape() {
        SeesawPairs x = new SeesawPairs();
        Check.due("end of nothing", x.end(0), 0);
        Check.due("end above", x.end(1), -1);
        for (int i = 1; i <= 40; i++) Check.due("feed " + i, x.feed(-1L), 8 * i);
        Check.due("feed 41", x.feed(0L), -3);
        Check.due("bytes", x.count(3), 320);
        Check.due("end -1", x.end(-1), -1);
        Check.due("end 321", x.end(321), -1);
        Check.due("end 313", x.end(313), 320);
        Check.due("feed at 313", x.feed(0L), -3);
        Check.due("end 312", x.end(312), 313);
        Check.due("feed at 312", x.feed(0L), 320);
        Check.due("text of 255", x.text(), -10);
        Check.due("its fault", x.fault(), 1);
        Check.due("the highest first", x.feed(0x62616e6b7320333bL), 8);
        Check.due("text banks 3;", x.text(), 1);
        Check.due("rule 0", x.rule(0), 3);
        Check.due("fault", x.fault(), 0);
    }

    private static void taken() {
        SeesawPairs x = Check.told(Check.EXAMPLE);
        x.cross(0, 0, 3, 0, 0);
        x.keep(0);
        x.sheet(0, 0, 3);
        Check.due("an empty text", Check.tell(x, ""), 0);
        int[] rules = {2, 0, 0, 3, 0};
        for (int what = 0; what < 5; what++) Check.due("rule " + what, x.rule(what), rules[what]);
        int[] counts = {0, 0, 0, 0, 3, 0};
        for (int what = 0; what < 6; what++) Check.due("count " + what, x.count(what), counts[what]);
        Check.due("blanks alone", Check.tell(x, "   "), 0);
        Check.due("without blanks", Check.tell(x, "one stout09 1 0;heap1 20;banks2;stone09 ;"), 4);
        Check.due("weight", x.one(0, 1), 9);
        Check.due("kind", x.one(0, 0), 4);
        Check.due("stones", x.stones(1), 20);
        Check.due("stone", x.rule(3), 9);
        Check.due("banks behind", Check.tell(x, "heap 3 1;bridge 3 2 0;one child 99 3 2;meet 0 1 0; one plain 1 0 0; banks 4;"), 6);
        Check.due("play 0", x.bridge(0, 2), 0);
        Check.due("the day", x.count(1), 1);
        StringBuilder meets = new StringBuilder("bridge 0 1 20;one plain 1 0 0;one plain 1 1 1;");
        for (int i = 0; i < 8; i++) meets.append("meet 0 0 1;");
        Check.due("eight meets", Check.tell(x, meets.toString()), 11);
        Check.due("eight told", x.count(1), 8);
    }

    private static void faults() {
        Check.refused("$", 1, 0);
        Check.refused(" \t", 1, 1);
        Check.refused("Banks 2;", 1, 0);
        Check.refused("banks 2;\n", 1, 8);
        Check.refused("banks " + (char) 233, 1, 6);
        Check.refused("banks 002;", 1, 6);
        Check.refused("123", 1, 0);
        Check.refused("banks 5 $", 3, 6);
        Check.refused("z 2;", 2, 0);
        Check.refused("a", 2, 0);
        Check.refused("{", 1, 0);
        Check.refused("`", 1, 0);
        Check.refused("/", 1, 0);
        Check.refused(":", 1, 0);
        Check.refused("bank 2;", 2, 0);
        Check.refused("bankss 2;", 2, 0);
        Check.refused(" ;", 2, 1);
        Check.refused("7", 2, 0);
        Check.refused("banks", 2, 5);
        Check.refused("banks  ", 2, 7);
        Check.refused("banks 2", 2, 7);
        Check.refused("banks ;", 2, 6);
        Check.refused("banks two;", 2, 6);
        Check.refused("banks 2 3;", 2, 8);
        Check.refused("banks 2;;", 2, 8);
        Check.refused("one 1 1 0 0;", 2, 4);
        Check.refused("one plains 1 0 0;", 2, 4);
        Check.refused("one banks 1 0 0;", 2, 4);
        Check.refused("one plain", 2, 9);
        Check.refused("one plain 1 0 ;", 2, 14);
        Check.refused("banks 1;", 3, 6);
        Check.refused("stone 10;", 3, 6);
        Check.refused("heap 4 1;", 3, 5);
        Check.refused("heap 0 00;", 3, 7);
        Check.refused("heap 0 21;", 3, 7);
        Check.refused("bridge 4 0 1;", 3, 7);
        Check.refused("bridge 0 4 1;", 3, 9);
        Check.refused("bridge 0 1 21;", 3, 11);
        Check.refused("one plain 0 0 0;", 3, 10);
        Check.refused("one plain 1 4 0;", 3, 12);
        Check.refused("one plain 1 0 4;", 3, 14);
        Check.refused("meet 4 0 1;", 3, 5);
        Check.refused("meet 0 6 1;", 3, 7);
        Check.refused("meet 0 0 6;", 3, 9);
        Check.refused("banks 2;banks", 4, 8);
        Check.refused("stone 2;stone 99;", 4, 8);
        Check.refused("heap 3 1;heap 3", 4, 14);
        Check.refused("bridge 3 3 99;", 4, 9);
        Check.refused("meet 3 5 5;", 4, 9);
        fifths();
        Check.refused("heap 2 1;", 6, 9);
        Check.refused("bridge 2 0 1; ", 6, 14);
        Check.refused("bridge 0 2 1;", 6, 13);
        Check.refused("one plain 1 2 0;", 6, 16);
        Check.refused("one plain 1 0 2;", 6, 16);
        Check.refused("one plain 1 0 0;one plain 1 0 0;meet 0 0 1;", 6, 43);
        Check.refused("bridge 0 1 1;one plain 1 0 0;meet 0 0 1;", 6, 40);
        Check.refused("bridge 0 1 1;one plain 1 0 0;meet 0 1 0;", 6, 40);
    }

    private static void fifths() {
        String bridges = "bridge 0 1 1;".repeat(4);
        Check.refused(bridges + "bridge", 5, 52);
        String people = "one child 1 0 1;".repeat(6);
        Check.refused(people + "  one", 5, 98);
        String meets = "meet 0 0 1;".repeat(8);
        Check.refused(meets + "meet 9 9 9;", 5, 88);
    }

    private static void rows() {
        SeesawPairs x = Check.told(Check.EXAMPLE);
        int[] rules = {3, 3, 6, 4, 0};
        for (int what = 0; what < 5; what++) Check.due("rule " + what, x.rule(what), rules[what]);
        int[][] bridges = {{0, 1, 5}, {1, 2, 8}, {2, 0, 3}};
        int[][] people = {{0, 40, 0, 1}, {1, 44, 1, 0}, {2, 52, 1, 0}, {3, 38, 1, 2}, {4, 60, 0, 1}, {0, 41, 2, 0}};
        for (int b = 0; b < 3; b++) {
            for (int what = 0; what < 3; what++) Check.due("bridge " + b, x.bridge(b, what), bridges[b][what]);
        }
        for (int p = 0; p < 6; p++) {
            for (int what = 0; what < 4; what++) Check.due("one " + p, x.one(p, what), people[p][what]);
        }
        int[] odd = {Integer.MIN_VALUE, -1, 6, 7, Integer.MAX_VALUE};
        for (int v : odd) {
            Check.due("rule " + v, x.rule(v), -1);
            Check.due("bridge " + v, x.bridge(v, 0), -1);
            Check.due("bridge what " + v, x.bridge(0, v), -1);
            Check.due("one " + v, x.one(v, 0), -1);
            Check.due("one what " + v, x.one(0, v), -1);
            Check.due("stones " + v, x.stones(v), -1);
        }
        Check.due("rule 5", x.rule(5), -1);
        Check.due("bridge 3", x.bridge(3, 0), -1);
        Check.due("bridge what 3", x.bridge(0, 3), -1);
        Check.due("one what 4", x.one(0, 4), -1);
        int[] stones = {5, 9, 0, -1};
        for (int bank = 0; bank < 4; bank++) Check.due("stones " + bank, x.stones(bank), stones[bank]);
    }
}
