import java.util.ArrayList;
import java.util.List;

/** Two objects with the same past: a call that changes nothing leaves the second as the first. */
final class Twins {
    interface Call {
        long on(EveningPoach x);
    }

    interface NumberedCall {
        long of(int i);
    }

    interface Past {
        EveningPoach made();
    }

    private Twins() {
    }

    static boolean isUnchangedBy(Past past, Call call) {
        EveningPoach first = past.made();
        EveningPoach second = past.made();
        call.on(second);
        return allAnswers(first).equals(allAnswers(second));
    }

    /** Asks for all that can be told, what was seen, the images, the sheets and the tape too; the object is spent then. */
    static List<Long> allAnswers(EveningPoach x) {
        List<Long> answers = new ArrayList<>();
        answers.add((long) x.fault());
        answers.add((long) x.torn());
        addStand(x, answers);
        for (int t = 0; t < 5; t++) {
            answers.add((long) x.kinds(t));
            answers.add((long) x.gates(t));
        }
        for (int k = 0; k < 2; k++) {
            answers.add((long) x.back(k));
            addStand(x, answers);
        }
        for (int k = 0; k < 4; k++) {
            for (int lane = 0; lane < 3; lane++) {
                answers.add((long) x.read(k, lane, 0, 20));
                answers.add((long) x.torn());
            }
        }
        addStand(x, answers);
        answers.add((long) x.text());
        answers.add((long) x.fault());
        addStand(x, answers);
        return answers;
    }

    private static void addStand(EveningPoach x, List<Long> answers) {
        for (int what = 0; what < 8; what++) {
            answers.add((long) x.rule(what));
        }
        for (int what = 0; what < 6; what++) {
            answers.add((long) x.count(what));
            answers.add((long) x.gate(what, 0));
            answers.add((long) x.gate(what, 1));
        }
        for (int t = 0; t < x.rule(0); t++) {
            for (int what = 0; what < 4; what++) {
                answers.add((long) x.taker(t, what));
            }
        }
        for (int k = 0; k < x.rule(1); k++) {
            for (int what = 0; what < 3; what++) {
                answers.add((long) x.keeper(k, what));
            }
        }
    }
}
