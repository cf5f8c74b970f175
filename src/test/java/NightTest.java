/** Promises 16 to 20 and 35: nights, as they go and as they would. */
public final class NightTest {
    private static final Check CHECK = new Check();

    public static void main(String[] args) {
        nights();
        orderOfTakers();
        bounds();
        lastNight();
        heldForAWeek();
        mostCatches();
        runs();
        ahead();
        glow();
        caught();
        farBehindTheLastNight();
        drift();
        CHECK.finish("NightTest");
    }

    private static void nights() {
        EveningPoach x = Check.told("squire 2;");
        CHECK.due("nights(0)", x.nights(0), 0);
        CHECK.due("rule(2)", x.rule(2), 0);
        CHECK.due("nights(2)", x.nights(2), 24);
        CHECK.due("light left", x.gate(2, 0), 10);
        CHECK.due("all there is at most", x.nights(1), 10);
        CHECK.due("light grows behind the taking", x.gate(2, 0), 2);
        CHECK.due("nights(1)", x.nights(1), 2);
        CHECK.due("bag", x.taker(0, 2), 36);
        CHECK.due("rule(2) behind 4", x.rule(2), 4);
        CHECK.due("nights(31)", x.nights(31), -1);
        CHECK.due("nights(-1)", x.nights(-1), -1);
        CHECK.due("nights(max)", x.nights(Integer.MAX_VALUE), -1);
        CHECK.due("nights(30)", x.nights(30), 60);
        CHECK.due("rule(2) behind 34", x.rule(2), 34);
    }

    private static void orderOfTakers() {
        EveningPoach x = Check.told("boy 0;squire 0;net 0;gate 0 10 4;");
        CHECK.due("three at one gate", x.nights(1), 10);
        CHECK.due("the first takes first", x.taker(0, 2), 3);
        CHECK.due("the second takes the rest", x.taker(1, 2), 7);
        CHECK.due("nothing is left for the third", x.taker(2, 2), 0);
        CHECK.due("light", x.gate(0, 0), 4);
    }

    private static void bounds() {
        EveningPoach x = Check.told("squire 0;gate 1 59 9;gate 0 60 9;");
        x.alter(0, 2, 995);
        CHECK.due("what is more than a bag holds is taken too", x.nights(1), 12);
        CHECK.due("a bag holds 999", x.taker(0, 2), 999);
        CHECK.due("light is less by that", x.gate(0, 0), 57);
        CHECK.due("light grows to 60", x.gate(1, 0), 60);
        CHECK.due("a full bag", x.nights(1), 12);
        CHECK.due("stays full", x.taker(0, 2), 999);
    }

    private static void lastNight() {
        EveningPoach x = new EveningPoach();
        for (int i = 0; i < 33; i++) {
            x.nights(30);
        }
        CHECK.due("night", x.rule(2), 990);
        CHECK.due("nights(10) from 990", x.nights(10), -3);
        CHECK.due("nights(31) is bad ahead of full", x.nights(31), -1);
        CHECK.due("nights(9) from 990", x.nights(9), 0);
        CHECK.due("the last night", x.rule(2), 999);
        CHECK.due("nights(1) from 999", x.nights(1), -3);
        CHECK.due("nights(0) from 999", x.nights(0), 0);
        CHECK.due("night stays", x.rule(2), 999);
    }

    private static void heldForAWeek() {
        EveningPoach x = Check.told("boy 0;keeper 0 0 5;");
        CHECK.due("caught: nothing is taken", x.nights(1), 0);
        CHECK.due("held", x.taker(0, 3), 7);
        for (int left = 6; left >= 0; left--) {
            CHECK.due("held: nothing is taken", x.nights(1), 0);
            CHECK.due("a night less", x.taker(0, 3), left);
        }
        CHECK.due("one catch in 8 nights", x.rule(3), 1);
        x.dismiss(0);
        CHECK.due("then he takes again", x.nights(1), 3);
        x.hire(0, 0, 6);
        CHECK.due("an ear above the noise hears nothing", x.nights(1), 3);
        x.order(0, 2, 5);
        x.order(0, 0, 1);
        CHECK.due("a keeper at another gate hears nothing", x.nights(1), 3);
        x.order(0, 1, 1);
        CHECK.due("keeper's place in night 11", x.keeper(0, 3), 0);
        CHECK.due("caught on the round", x.nights(1), 0);
        CHECK.due("catches", x.rule(3), 2);
    }

    /** So many catches take more than the 512 calls that are promised, the way it is done here. */
    private static void mostCatches() {
        EveningPoach x = Check.told("boy 0;boy 0;boy 0;boy 0;boy 0;keeper 0 0 1;");
        for (int night = 0; night < 199; night++) {
            x.nights(1);
            for (int t = 0; t < 5; t++) {
                x.free(t);
            }
        }
        CHECK.due("catches", x.rule(3), 995);
        x.nights(1);
        CHECK.due("999 at most", x.rule(3), 999);
        x.nights(30);
        CHECK.due("it stays", x.rule(3), 999);
        x.free(0);
        CHECK.due("how many times is counted all the same", x.runs(1, 2), 1);
    }

    private static void runs() {
        EveningPoach x = Check.told("net 1;squire 2;boy 3;keeper 0 1 3;keeper 3 0 6;");
        // Night 0: all take 6, 12, 3. Night 1: the net is caught. Night 2: the squire. Night 3: the boy.
        long[][] rows = {
            {0, 0, 0, 180, -4}, {21, 0, 0, 171, -4}, {36, 1, 1, 168, 2}, {39, 3, 2, 177, 2}, {39, 7, 3, 189, 2}};
        for (int n = 0; n < rows.length; n++) {
            for (int what = 0; what < 5; what++) {
                CHECK.due("runs(" + n + ", " + what + ")", x.runs(n, what), rows[n][what]);
            }
        }
        CHECK.due("nothing is changed", x.rule(2), 0);
        CHECK.due("no light is gone", x.rule(4), 180);
        CHECK.due("runs(60, 4)", x.runs(60, 4), 2);
        CHECK.due("runs(61, 0)", x.runs(61, 0), -1);
        CHECK.due("runs(-1, 0)", x.runs(-1, 0), -1);
        CHECK.due("runs(0, 5)", x.runs(0, 5), -1);
        CHECK.due("runs(0, -1)", x.runs(0, -1), -1);
        EveningPoach y = Check.told("boy 0;keeper 0 0 1;");
        CHECK.due("caught again behind each week", y.runs(60, 2), 8);
        CHECK.due("in the first night", y.runs(60, 4), 1);
    }

    private static void ahead() {
        EveningPoach x = Check.told("net 1;dog 1;keeper 0 1 3;");
        CHECK.due("ahead(0, 1, 0)", x.ahead(0, 1, 0), 6);
        CHECK.due("ahead(0, 1, 1)", x.ahead(0, 1, 1), 0);
        CHECK.due("ahead(0, 2, 0)", x.ahead(0, 2, 0), 6);
        CHECK.due("ahead(0, 2, 1)", x.ahead(0, 2, 1), 7);
        CHECK.due("ahead(0, 9, 1)", x.ahead(0, 9, 1), 0);
        CHECK.due("ahead(1, 3, 0)", x.ahead(1, 3, 0), 18);
        CHECK.due("ahead(1, 0, 0)", x.ahead(1, 0, 0), 0);
        CHECK.due("nothing is changed", x.taker(1, 2), 0);
        CHECK.due("ahead(2, 0, 0)", x.ahead(2, 0, 0), -1);
        CHECK.due("ahead(-1, 0, 0)", x.ahead(-1, 0, 0), -1);
        CHECK.due("ahead(0, 61, 0)", x.ahead(0, 61, 0), -1);
        CHECK.due("ahead(0, -1, 0)", x.ahead(0, -1, 0), -1);
        CHECK.due("ahead(0, 0, 2)", x.ahead(0, 0, 2), -1);
        CHECK.due("ahead(0, 0, -1)", x.ahead(0, 0, -1), -1);
    }

    private static void glow() {
        EveningPoach x = Check.told("squire 4;gate 4 20 5;gate 5 50 3;");
        int[] four = {20, 13, 6, 5, 5};
        for (int n = 0; n < four.length; n++) {
            CHECK.due("glow(4, " + n + ")", x.glow(4, n), four[n]);
        }
        CHECK.due("glow(5, 3)", x.glow(5, 3), 59);
        CHECK.due("glow(5, 4)", x.glow(5, 4), 60);
        CHECK.due("glow(5, 60)", x.glow(5, 60), 60);
        CHECK.due("nothing is changed", x.gate(5, 0), 50);
        CHECK.due("glow(6, 0)", x.glow(6, 0), -1);
        CHECK.due("glow(-1, 0)", x.glow(-1, 0), -1);
        CHECK.due("glow(0, 61)", x.glow(0, 61), -1);
        CHECK.due("glow(0, -1)", x.glow(0, -1), -1);
    }

    private static void caught() {
        EveningPoach x = Check.told("net 5;dog 5;boy 0;keeper 0 1 3;");
        CHECK.due("caught(0)", x.caught(0), 6);
        CHECK.due("caught(1)", x.caught(1), -4);
        CHECK.due("caught(2)", x.caught(2), 1);
        x.nights(1);
        CHECK.due("held first, then caught on a later round", x.caught(2), 12);
        CHECK.due("caught(3)", x.caught(3), -1);
        CHECK.due("caught(-1)", x.caught(-1), -1);
        EveningPoach y = Check.told("boy 3;keeper 0 2 1;");
        CHECK.due("a keeper on even gates alone", y.caught(0), -4);
    }

    private static void farBehindTheLastNight() {
        EveningPoach x = Check.told("boy 3;keeper 0 1 5;");
        x.alter(0, 0, 1);
        for (int i = 0; i < 33; i++) {
            x.nights(30);
        }
        x.nights(9);
        x.alter(0, 0, 2);
        CHECK.due("the keeper is there in night 999", x.caught(0), 1);
        x.alter(0, 1, 2);
        CHECK.due("by nights goes on behind 999", x.caught(0), 6);
        CHECK.due("runs(60, 2) from 999", x.runs(60, 2), 5);
        CHECK.due("nothing is changed", x.rule(2), 999);
    }

    private static void drift() {
        EveningPoach x = new EveningPoach();
        CHECK.due("drift without takers", x.drift(1, 1, 0), -2);
        CHECK.due("drift not as told goes ahead", x.drift(1, 0, 0), -1);
        Check.tell(x, "net 0;boy 0;squire 0;gate 0 0 0;gate 1 10 0;keeper 1 0 5;");
        // Seed 1 gives 16838 first: taker 2 (16838 modulo 3), gate 4 (2104 modulo 6).
        CHECK.due("drift(1, 1, 0)", x.drift(1, 1, 0), 12);
        // Then 5758: taker 1, gate 5 (719 modulo 6); then 10113: taker 0, gate 4 (1264 modulo 6).
        CHECK.due("drift(1, 2, 0)", x.drift(1, 2, 0), 12 + 3 + 12);
        CHECK.due("drift(1, 3, 0)", x.drift(1, 3, 0), 27 + 6 + 3 + 4);
        CHECK.due("drift(1, 3, 1)", x.drift(1, 3, 1), 0);
        x.order(0, 0, 4);
        CHECK.due("drift into a keeper", x.drift(1, 1, 1), 1);
        CHECK.due("drift into a keeper takes nothing", x.drift(1, 1, 0), 0);
        CHECK.due("nothing is changed", x.taker(2, 1), 0);
        CHECK.due("night is not changed", x.rule(2), 0);
        CHECK.due("drift(1, 61, 0)", x.drift(1, 61, 0), -1);
        CHECK.due("drift(1, -1, 0)", x.drift(1, -1, 0), -1);
        CHECK.due("drift(1, 1, 2)", x.drift(1, 1, 2), -1);
        CHECK.due("drift(1, 1, -1)", x.drift(1, 1, -1), -1);
        CHECK.holds("any seed", x.drift(Integer.MIN_VALUE, 60, 0) >= 0 && x.drift(Integer.MAX_VALUE, 60, 1) >= 0);
    }
}
