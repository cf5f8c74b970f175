/** Counts the answers that are not as due, and ends a test by that. */
final class Check {
    static final int BAD = -1, STATE = -2, FULL = -3, NONE = -4;

    private int asked;
    private int wrong;

    void due(String call, long got, long want) {
        asked++;
        if (got != want) {
            wrong++;
            if (wrong <= 40) {
                System.out.println(call + " answered " + got + ", due is " + want);
            }
        }
    }

    void holds(String what, boolean held) {
        due(what, held ? 1 : 0, 1);
    }

    boolean isWrong() {
        return wrong > 0;
    }

    void finish(String name) {
        System.out.println(name + ": " + asked + " answers, " + wrong + " not as due");
        if (wrong != 0 || asked == 0) {
            System.exit(1);
        }
    }

    static void feed(EveningPoach x, String text) {
        for (int i = 0; i < text.length(); i++) {
            x.feed(text.charAt(i));
        }
    }

    static int tell(EveningPoach x, String text) {
        feed(x, text);
        return x.text();
    }

    static EveningPoach told(String text) {
        EveningPoach x = new EveningPoach();
        if (tell(x, text) < 0) {
            throw new IllegalStateException("the test's own text has a fault: " + text);
        }
        return x;
    }
}
