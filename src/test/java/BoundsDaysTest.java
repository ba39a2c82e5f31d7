/** Boundaries that promises 26 to 29 name: tell, forget, judge, late. */
public final class BoundsDaysTest {
    private static final String TWO = "bridge 0 1 9;one plain 5 0 1;one plain 5 1 0;";

    public static void main(String[] args) {
        ask();
        Sentences.finish(26, 29);
    }

    static void ask() {
        promise26Tell();
        promise27Forget();
        promise28Judge();
        promise29Late();
    }

    private static void promise26Tell() {
        Sentences.holds(26, "a PAIR more is told: how many are.", () -> {
            SeesawPairs x = Check.told(TWO + "meet 0 0 1;");
            Check.due("behind those of the text", x.tell(0, 1, 0), 2);
            Check.due("it is the second", x.judge(), -4);
            Check.due("also one that can not cross", x.tell(0, 1, 0), 3);
            Check.due("it is the third", x.judge(), 2);
            Check.due("nobody went", x.rule(4), 0);
            x = Check.told("banks 4;bridge 0 1 9;bridge 1 2 9;bridge 2 3 9;bridge 3 0 9;one plain 5 0 0;one plain 5 1 0;one plain 5 2 0;one plain 5 3 0;");
            int[] others = {1, 2, 3, 1, 2, 3, 1, 2};
            for (int i = 0; i < 8; i++) Check.due("by bridge " + i % 4, x.tell(i % 4, 0, others[i]), i + 1);
            Check.due("all bridges, in turn", x.judge(), -4);
        });
        Sentences.holds(26, "BAD (also alike)", () -> {
            SeesawPairs x = Check.told(TWO);
            Check.badOutside("tell b", 0, 0, b -> x.tell(b, 0, 1));
            Check.badOutside("tell p", 0, 1, p -> x.tell(0, p, 1));
            Check.badOutside("tell q", 0, 1, q -> x.tell(0, 0, q));
            for (int p = 0; p < 2; p++) Check.due("alike " + p, x.tell(0, p, p), -1);
            Check.due("none was told", x.count(1), 0);
            SeesawPairs most = Check.told("bridge 0 1 9;".repeat(4) + "one plain 5 0 1;".repeat(6));
            Check.bounds("tell b of four", 0, 3, b -> most.tell(b, 0, 1));
            Check.bounds("tell q of six", 1, 5, q -> most.tell(0, 0, q));
            Check.bounds("tell p of six", 1, 5, p -> most.tell(0, p, 0));
        });
        Sentences.holds(26, "FULL.", () -> {
            SeesawPairs x = Check.told(TWO);
            for (int n = 1; n <= 8; n++) Check.due("tell " + n, x.tell(0, n % 2 == 1 ? 0 : 1, n % 2 == 1 ? 1 : 0), n);
            Check.due("the ninth", x.tell(0, 1, 0), -3);
            Check.due("eight still", x.count(1), 8);
            Check.due("they are what they were", x.judge(), -4);
            Check.due("wrong comes before full", x.tell(0, 0, 0), -1);
            Check.due("wrong comes before full", x.tell(1, 0, 1), -1);
            x.forget(7);
            Check.due("there is room for one", x.tell(0, 0, 1), 8);
            Check.due("he is there already", x.judge(), 7);
            Check.due("eight of a text", Check.told(TWO + "meet 0 0 1;".repeat(8)).tell(0, 0, 1), -3);
        });
    }

    private static void promise27Forget() {
        Sentences.holds(27, "Of THE DAY the first n stay: how many there were.", () -> {
            SeesawPairs x = Check.told(TWO + "meet 0 1 0;" + "meet 0 0 1;".repeat(7));
            Check.due("all stay", x.forget(8), 8);
            Check.due("seven stay", x.forget(7), 8);
            Check.due("one stays", x.forget(1), 7);
            Check.due("the first one", x.judge(), 0);
            Check.due("none stays", x.forget(0), 1);
            Check.due("none", x.count(1), 0);
            Check.due("none of none", x.forget(0), 0);
        });
        Sentences.holds(27, "BAD.", () -> {
            SeesawPairs x = Check.told(TWO);
            Check.bounds("forget of none", 0, 0, x::forget);
            x.tell(0, 0, 1);
            x.tell(0, 0, 1);
            Check.badOutside("forget of two", 0, 2, x::forget);
            Check.due("two still", x.count(1), 2);
            SeesawPairs eight = Check.told(TWO + "meet 0 0 1;".repeat(8));
            Check.badOutside("forget of eight", 0, 8, eight::forget);
            Check.due("eight still", eight.count(1), 8);
        });
    }

    private static void promise28Judge() {
        Sentences.holds(28, "The first of THE DAY that can not cross (those ahead did).", () -> {
            SeesawPairs x = Check.told(TWO + "meet 0 1 0;");
            Check.due("the first", x.judge(), 0);
            Check.tell(x, TWO + "meet 0 0 1;meet 0 1 0;".repeat(4));
            Check.due("none", x.judge(), -4);
            x.forget(7);
            x.tell(0, 0, 1);
            Check.due("the last", x.judge(), 7);
            Check.due("nobody went", x.rule(4), 0);
            Check.due("nobody went", x.one(0, 2), 0);
            Check.due("again", x.judge(), 7);
        });
        Sentences.holds(28, "NONE: all can.", () -> {
            Check.due("a new object", new SeesawPairs().judge(), -4);
            Check.due("a day of none", Check.told(TWO).judge(), -4);
            SeesawPairs x = Check.told(TWO + "meet 0 0 1;");
            Check.due("one that can", x.judge(), -4);
            x.weigh(1, 14);
            Check.due("just so", x.judge(), -4);
            x.weigh(1, 15);
            Check.due("too heavy", x.judge(), 0);
        });
        Sentences.holds(0, "THE DAY: told PAIRS, one behind another, without STONES.", () -> {
            SeesawPairs x = Check.told("heap 0 20;heap 1 20;bridge 0 1 2;one plain 5 0 1;one plain 8 1 0;meet 0 0 1;");
            Check.due("one stone would help", x.balance(0, 0, 1, 0), 1);
            Check.due("but there are none", x.judge(), 0);
            Check.due("for who comes, too", x.late(0) + x.late(1), 0);
        });
    }

    private static void promise29Late() {
        Sentences.holds(29, "if a ONE does not come and who can not cross is left out", () -> {
            Check.due("a day of none", Check.told(TWO).late(0), 0);
            String three = "bridge 0 1 9;one plain 5 0 1;one plain 5 1 0;one plain 5 1 0;";
            SeesawPairs x = Check.told(three + "meet 0 0 1;meet 0 1 2;meet 0 2 0;");
            // 0 with 1; 1, who came to bank 0, with 2; 2 with 0
            Check.due("all can", x.judge(), -4);
            // without 0, 1 never comes to bank 0, so nobody else crosses
            int[] due = {0, 0, 1};
            for (int p = 0; p < 3; p++) Check.due("late " + p, x.late(p), due[p]);
            SeesawPairs other = Check.told(three + "one plain 5 0 1;" + "meet 0 1 0;".repeat(3) + "meet 0 0 1;meet 0 1 0;meet 0 0 1;meet 0 1 2;meet 0 3 2;");
            // without 3: the first three can not, four cross, and the last one would be his
            int[] their = {1, 1, 3, 4};
            for (int p = 0; p < 4; p++) Check.due("late of eight " + p, other.late(p), their[p]);
            Check.due("nobody went", other.rule(4), 0);
            SeesawPairs less = Check.told(three + "meet 0 0 1;meet 0 1 0;meet 0 0 2;");
            less.forget(1);
            Check.due("what is forgotten does not cross", less.late(2), 1);
            less.forget(0);
            Check.due("nothing is left", less.late(2), 0);
        });
        Sentences.holds(29, "BAD.", () -> {
            Check.bounds("late of two", 0, 1, Check.told(TWO + "meet 0 0 1;")::late);
            Check.bounds("late of six", 0, 5, Check.told("one plain 5 0 1;".repeat(6))::late);
            Check.badOutside("late of nobody", 0, -1, new SeesawPairs()::late);
        });
    }
}
