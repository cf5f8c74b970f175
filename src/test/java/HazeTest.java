/** Promises 28 and 29: hazes by odds. */
public final class HazeTest {
    private static final Check CHECK = new Check();

    public static void main(String[] args) {
        luck();
        mean();
        CHECK.finish("HazeTest");
    }

    private static void luck() {
        EveningPoach x = Check.told("boy 0;dog 0;keeper 0 0 2;");
        lucky(x, 3, 0, 2, 9, 100);
        lucky(x, 5, 0, 1, 1, 2);
        lucky(x, 0, 0, 1, 0, 1);
        lucky(x, 0, 0, 0, 1, 1);
        lucky(x, 10, 0, 8, 1, 1);
        lucky(x, 9, 0, 8, 43046721, 100000000);
        lucky(x, 2, 0, 8, 1, 390625);
        lucky(x, 0, 1, 8, 1, 1);
        CHECK.due("nothing is changed", x.rule(2), 0);
        x.nights(1);
        lucky(x, 4, 0, 7, 1, 1);
        lucky(x, 4, 0, 8, 2, 5);
        x.free(0);
        x.order(0, 1, 1);
        x.order(0, 0, 5);
        lucky(x, 2, 0, 6, 1, 5);
        lucky(x, 2, 0, 8, 1, 25);
        CHECK.due("luck(-1, 0, 0, 0)", x.luck(-1, 0, 0, 0), -1);
        CHECK.due("luck(11, 0, 0, 0)", x.luck(11, 0, 0, 0), -1);
        CHECK.due("luck(0, 2, 0, 0)", x.luck(0, 2, 0, 0), -1);
        CHECK.due("luck(0, -1, 0, 0)", x.luck(0, -1, 0, 0), -1);
        CHECK.due("luck(0, 0, 9, 0)", x.luck(0, 0, 9, 0), -1);
        CHECK.due("luck(0, 0, -1, 0)", x.luck(0, 0, -1, 0), -1);
        CHECK.due("luck(0, 0, 0, 2)", x.luck(0, 0, 0, 2), -1);
        CHECK.due("luck(0, 0, 0, -1)", x.luck(0, 0, 0, -1), -1);
    }

    private static void mean() {
        EveningPoach x = Check.told("boy 0;keeper 0 0 1;");
        means(x, 5, 1, 3, 2);
        means(x, 5, 2, 9, 4);
        means(x, 0, 8, 0, 1);
        means(x, 10, 2, 6, 1);
        means(x, 7, 0, 0, 1);
        // 3 for each night up to the first that is clear: 3 (9/10 + .. + 9/10 to the 8th).
        means(x, 9, 8, 3L * (90000000 + 81000000 + 72900000 + 65610000 + 59049000 + 53144100 + 47829690 + 43046721),
            100000000);
        CHECK.due("nothing is changed", x.rule(4), 180);
        EveningPoach y = Check.told("net 0;boy 0;gate 0 4 0;keeper 0 0 4;");
        // The net takes all there is ahead of the boy, whatever the weather is.
        means(y, 3, 2, 4, 1);
        EveningPoach z = Check.told("boy 0;net 0;gate 0 4 0;keeper 0 0 4;");
        means(z, 3, 1, 4, 1);
        means(new EveningPoach(), 3, 8, 0, 1);
        CHECK.due("mean(-1, 0, 0)", x.mean(-1, 0, 0), -1);
        CHECK.due("mean(11, 0, 0)", x.mean(11, 0, 0), -1);
        CHECK.due("mean(0, 9, 0)", x.mean(0, 9, 0), -1);
        CHECK.due("mean(0, -1, 0)", x.mean(0, -1, 0), -1);
        CHECK.due("mean(0, 0, 2)", x.mean(0, 0, 2), -1);
        CHECK.due("mean(0, 0, -1)", x.mean(0, 0, -1), -1);
    }

    private static void lucky(EveningPoach x, int v, int t, int n, long numerator, long denominator) {
        CHECK.due("luck(" + v + ", " + t + ", " + n + ", 0)", x.luck(v, t, n, 0), numerator);
        CHECK.due("luck(" + v + ", " + t + ", " + n + ", 1)", x.luck(v, t, n, 1), denominator);
    }

    private static void means(EveningPoach x, int v, int n, long numerator, long denominator) {
        CHECK.due("mean(" + v + ", " + n + ", 0)", x.mean(v, n, 0), numerator);
        CHECK.due("mean(" + v + ", " + n + ", 1)", x.mean(v, n, 1), denominator);
    }
}
