import java.util.ArrayList;
import java.util.List;

/** What an object answers to all questions about what there is, also about what there is not: nothing of it changes. */
final class Answers {
    private Answers() {
    }

    static List<Integer> of(SeesawPairs x) {
        List<Integer> answers = new ArrayList<>();
        for (int what = 0; what < 5; what++) answers.add(x.rule(what));
        for (int what = 0; what < 4; what++) answers.add(x.count(what));
        answers.add(x.count(5));
        for (int bank = 0; bank < 5; bank++) answers.add(x.stones(bank));
        for (int b = 0; b < 5; b++) ofBridge(x, b, answers);
        for (int p = 0; p < 7; p++) {
            for (int what = 0; what < 4; what++) answers.add(x.one(p, what));
            answers.add(x.reach(p));
            answers.add(x.late(p));
        }
        answers.add(x.judge());
        answers.add(x.ways());
        for (int what = 0; what < 13; what += what == 0 ? 10 : 1) answers.add(x.plan(what));
        for (int what = 0; what < 2; what++) answers.add(x.season(7, 100, what));
        return answers;
    }

    private static void ofBridge(SeesawPairs x, int b, List<Integer> answers) {
        for (int what = 0; what < 3; what++) answers.add(x.bridge(b, what));
        answers.add(x.errands(b, 0));
        for (int what = 0; what < 2; what++) answers.add(x.heaved(b, what));
        for (int side = 0; side < 2; side++) {
            for (int what = 0; what < 2; what++) answers.add(x.hire(b, side, what));
        }
        for (int p = 0; p < 7; p++) {
            answers.add(x.fellows(b, p));
            answers.add(x.errands(b, 10 + p));
            answers.add(x.heaved(b, 10 + p));
            answers.add(x.worth(b, p));
        }
    }
}
