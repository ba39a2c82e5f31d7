/** Promises 26 to 29: tell, forget, judge, late. */
public final class DaysTest {
    public static void main(String[] args) {
        SeesawPairs x = Check.told("bridge 0 1 9;one plain 5 0 1;one plain 5 1 0;one plain 5 1 0;");
        Check.due("nothing told", x.judge(), -4);
        Check.due("late", x.late(0), 0);
        Check.due("tell", x.tell(0, 0, 1), 1);
        Check.due("tell", x.tell(0, 1, 2), 2);
        Check.due("all can", x.judge(), -4);
        Check.due("tell", x.tell(0, 1, 0), 3);
        Check.due("the third can not", x.judge(), 2);
        Check.due("nothing changed", x.rule(4), 0);
        Check.due("without 0", x.late(0), 0);
        Check.due("without 1", x.late(1), 0);
        Check.due("without 2", x.late(2), 2);
        Check.due("late, no one", x.late(3), -1);
        Check.due("late, no one", x.late(-1), -1);
        wrongNumbers(x);
        for (int i = 4; i <= 8; i++) Check.due("tell", x.tell(0, 0, 1), i);
        Check.due("the ninth", x.tell(0, 0, 1), -3);
        Check.due("the ninth, wrong", x.tell(0, 0, 0), -1);
        Check.due("forget 9", x.forget(9), -1);
        Check.due("forget", x.forget(1), 8);
        Check.due("forget 2", x.forget(2), -1);
        Check.due("forget -1", x.forget(-1), -1);
        Check.due("told", x.count(1), 1);
        Check.due("all can", x.judge(), -4);
        x.cross(0, 0, 1, 0, 0);
        Check.due("they went", x.judge(), 0);
        Check.due("forget all", x.forget(0), 1);
        Check.due("all can", x.judge(), -4);
        leftOut();
        Check.finish();
    }

    private static void wrongNumbers(SeesawPairs x) {
        Check.due("alike", x.tell(0, 1, 1), -1);
        Check.due("no bridge", x.tell(1, 0, 1), -1);
        Check.due("no bridge", x.tell(-1, 0, 1), -1);
        Check.due("no one", x.tell(0, 3, 1), -1);
        Check.due("no one", x.tell(0, 0, -1), -1);
        Check.due("told", x.count(1), 3);
    }

    private static void leftOut() {
        SeesawPairs x = Check.told(Check.EXAMPLE);
        Check.due("judge", x.judge(), 2);
        int[] due = {1, 3, 2, 1, 2, 2};
        for (int p = 0; p < 6; p++) Check.due("late " + p, x.late(p), due[p]);
        x.keep(0);
        x.forget(2);
        x.back(0);
        Check.due("an image has no day", x.count(1), 2);
    }
}
