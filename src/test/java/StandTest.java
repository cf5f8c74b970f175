/** Promises 6 to 15: what there is, what is changed. */
public final class StandTest {
    private static final Check CHECK = new Check();
    private static final int[] FAR = {Integer.MIN_VALUE, -1, 99, Integer.MAX_VALUE};

    public static void main(String[] args) {
        rules();
        gates();
        takers();
        keepers();
        alter();
        order();
        tend();
        free();
        hireAndDismiss();
        CHECK.finish("StandTest");
    }

    private static EveningPoach estate() {
        return Check.told("net 0;dog 0;boy 3;squire 1;keeper 0 1 3;keeper 3 0 5;gate 0 40 3;gate 3 2 0;");
    }

    private static void rules() {
        EveningPoach x = estate();
        int[] before = {4, 2, 0, 0, 162, 0, 0, 0b0101};
        for (int what = 0; what < 8; what++) {
            CHECK.due("rule(" + what + ")", x.rule(what), before[what]);
        }
        CHECK.due("nights(1)", x.nights(1), 18);
        int[] behind = {4, 2, 1, 2, 155, 18, 0b0101, 0b1000};
        for (int what = 0; what < 8; what++) {
            CHECK.due("rule(" + what + ") behind a night", x.rule(what), behind[what]);
        }
        for (int what : FAR) {
            CHECK.due("rule(" + what + ")", x.rule(what), -1);
        }
        CHECK.due("rule(8)", x.rule(8), -1);
    }

    private static void gates() {
        EveningPoach x = estate();
        CHECK.due("gate(0, 2)", x.gate(0, 2), 0b0011);
        CHECK.due("gate(1, 2)", x.gate(1, 2), 0b1000);
        CHECK.due("gate(2, 2)", x.gate(2, 2), 0);
        CHECK.due("gate(0, 3)", x.gate(0, 3), 0b01);
        CHECK.due("gate(3, 3)", x.gate(3, 3), 0b10);
        x.nights(3);
        CHECK.due("gate(0, 3) behind 3 nights", x.gate(0, 3), 0);
        CHECK.due("gate(3, 3) behind 3 nights", x.gate(3, 3), 0b11);
        CHECK.due("one who is held still goes there", x.gate(0, 2), 0b0011);
        CHECK.due("gate(3, 0)", x.gate(3, 0), 2);
        CHECK.due("gate(6, 0)", x.gate(6, 0), -1);
        CHECK.due("gate(0, 4)", x.gate(0, 4), -1);
        for (int v : FAR) {
            CHECK.due("gate(" + v + ", 0)", x.gate(v, 0), -1);
            CHECK.due("gate(0, " + v + ")", x.gate(0, v), -1);
        }
    }

    private static void takers() {
        EveningPoach x = estate();
        int[][] rows = {{0, 0, 0, 0, 6, 3}, {1, 0, 0, 0, 6, 1}, {2, 3, 0, 0, 3, 5}, {3, 1, 0, 0, 12, 5}};
        for (int t = 0; t < 4; t++) {
            for (int what = 0; what < 6; what++) {
                CHECK.due("taker(" + t + ", " + what + ")", x.taker(t, what), rows[t][what]);
            }
        }
        x.nights(1);
        CHECK.due("bag of who took", x.taker(1, 2), 6);
        CHECK.due("one who is caught is held for a week", x.taker(0, 3), 7);
        CHECK.due("taker(4, 0)", x.taker(4, 0), -1);
        CHECK.due("taker(0, 6)", x.taker(0, 6), -1);
        for (int v : FAR) {
            CHECK.due("taker(" + v + ", 0)", x.taker(v, 0), -1);
            CHECK.due("taker(0, " + v + ")", x.taker(0, v), -1);
        }
    }

    private static void keepers() {
        EveningPoach x = Check.told("keeper 4 5 2;keeper 3 0 9;");
        int[] at = {4, 3, 2, 1, 0, 5, 4};
        for (int n = 0; n < at.length; n++) {
            CHECK.due("keeper(0, 3) in night " + n, x.keeper(0, 3), at[n]);
            CHECK.due("keeper(1, 3) in night " + n, x.keeper(1, 3), 3);
            x.nights(1);
        }
        CHECK.due("keeper(0, 0)", x.keeper(0, 0), 4);
        CHECK.due("keeper(0, 1)", x.keeper(0, 1), 5);
        CHECK.due("keeper(1, 2)", x.keeper(1, 2), 9);
        CHECK.due("keeper(2, 0)", x.keeper(2, 0), -1);
        CHECK.due("keeper(0, 4)", x.keeper(0, 4), -1);
        for (int v : FAR) {
            CHECK.due("keeper(" + v + ", 0)", x.keeper(v, 0), -1);
            CHECK.due("keeper(0, " + v + ")", x.keeper(0, v), -1);
        }
    }

    private static void alter() {
        EveningPoach x = estate();
        int[] most = {3, 5, 999};
        for (int what = 0; what < 3; what++) {
            int was = x.taker(2, what);
            CHECK.due("alter to the most", x.alter(2, what, most[what]), was);
            CHECK.due("alter to 0", x.alter(2, what, 0), most[what]);
            CHECK.due("alter over the most", x.alter(2, what, most[what] + 1), -1);
            CHECK.due("alter below 0", x.alter(2, what, -1), -1);
            CHECK.due("what is refused changes nothing", x.taker(2, what), 0);
        }
        CHECK.due("alter(4, 0, 0)", x.alter(4, 0, 0), -1);
        CHECK.due("alter(-1, 0, 0)", x.alter(-1, 0, 0), -1);
        CHECK.due("alter(0, 3, 0)", x.alter(0, 3, 0), -1);
        CHECK.due("alter(0, -1, 0)", x.alter(0, -1, 0), -1);
    }

    private static void order() {
        EveningPoach x = estate();
        int[] least = {0, 0, 1};
        int[] most = {5, 5, 9};
        for (int what = 0; what < 3; what++) {
            int was = x.keeper(1, what);
            CHECK.due("order to the most", x.order(1, what, most[what]), was);
            CHECK.due("order to the least", x.order(1, what, least[what]), most[what]);
            CHECK.due("order over the most", x.order(1, what, most[what] + 1), -1);
            CHECK.due("order below the least", x.order(1, what, least[what] - 1), -1);
            CHECK.due("what is refused changes nothing", x.keeper(1, what), least[what]);
        }
        CHECK.due("order(2, 0, 0)", x.order(2, 0, 0), -1);
        CHECK.due("order(-1, 0, 0)", x.order(-1, 0, 0), -1);
        CHECK.due("order(0, 3, 1)", x.order(0, 3, 1), -1);
        CHECK.due("order(0, -1, 1)", x.order(0, -1, 1), -1);
    }

    private static void tend() {
        EveningPoach x = estate();
        int[] most = {60, 9};
        for (int what = 0; what < 2; what++) {
            int was = x.gate(5, what);
            CHECK.due("tend to the most", x.tend(5, what, most[what]), was);
            CHECK.due("tend to 0", x.tend(5, what, 0), most[what]);
            CHECK.due("tend over the most", x.tend(5, what, most[what] + 1), -1);
            CHECK.due("tend below 0", x.tend(5, what, -1), -1);
            CHECK.due("what is refused changes nothing", x.gate(5, what), 0);
        }
        CHECK.due("tend(6, 0, 0)", x.tend(6, 0, 0), -1);
        CHECK.due("tend(-1, 0, 0)", x.tend(-1, 0, 0), -1);
        CHECK.due("tend(0, 2, 0)", x.tend(0, 2, 0), -1);
        CHECK.due("tend(0, -1, 0)", x.tend(0, -1, 0), -1);
    }

    private static void free() {
        EveningPoach x = estate();
        CHECK.due("free of who is not held", x.free(0), -2);
        x.nights(3);
        CHECK.due("free(0)", x.free(0), 5);
        CHECK.due("free(0) again", x.free(0), -2);
        CHECK.due("held behind free", x.taker(0, 3), 0);
        CHECK.due("others stay held", x.rule(6), 0b1100);
        CHECK.due("catches stay", x.rule(3), 3);
        CHECK.due("free(4)", x.free(4), -1);
        CHECK.due("free(-1)", x.free(-1), -1);
    }

    private static void hireAndDismiss() {
        EveningPoach x = new EveningPoach();
        CHECK.due("hire(5, 5, 9)", x.hire(5, 5, 9), 1);
        CHECK.due("hire(0, 0, 1)", x.hire(0, 0, 1), 2);
        int[][] wrong = {{6, 0, 1}, {-1, 0, 1}, {0, 6, 1}, {0, -1, 1}, {0, 0, 0}, {0, 0, 10}};
        for (int[] w : wrong) {
            CHECK.due("hire not as told", x.hire(w[0], w[1], w[2]), -1);
        }
        CHECK.due("hire(1, 2, 3)", x.hire(1, 2, 3), 3);
        CHECK.due("hire of the 4th", x.hire(1, 2, 3), -3);
        CHECK.due("hire not as told goes ahead of full", x.hire(1, 2, 10), -1);
        CHECK.due("keeper(2, 2)", x.keeper(2, 2), 3);
        CHECK.due("ears", x.count(5), 13);
        CHECK.due("dismiss(4)", x.dismiss(4), -1);
        CHECK.due("dismiss(-1)", x.dismiss(-1), -1);
        CHECK.due("dismiss(3)", x.dismiss(3), 3);
        CHECK.due("dismiss(1)", x.dismiss(1), 3);
        CHECK.due("the first stays", x.keeper(0, 2), 9);
        CHECK.due("the second is gone", x.keeper(1, 2), -1);
        CHECK.due("dismiss(2)", x.dismiss(2), -1);
        CHECK.due("ears of who stays", x.count(5), 9);
        CHECK.due("hire anew", x.hire(2, 3, 4), 2);
        CHECK.due("keeper(1, 0)", x.keeper(1, 0), 2);
        CHECK.due("keeper(1, 1)", x.keeper(1, 1), 3);
        CHECK.due("dismiss(0)", x.dismiss(0), 2);
        CHECK.due("none", x.rule(1), 0);
    }
}
