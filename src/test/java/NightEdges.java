/** Section 2 but for sheets, promises 16 to 20 and 35 at their edges: nights, as they go and as they would. */
final class NightEdges {
    private final Edges e;

    NightEdges(Edges e) {
        this.e = e;
    }

    void run() {
        held();
        caughtInANight();
        mostCatches();
        takesAllThereIs();
        bagIsFull();
        grows();
        nightIsMore();
        byNights();
        nights();
        nightsAtTheLast();
        runs();
        runsFarthest();
        ahead();
        glow();
        caught();
        caughtAtTheFarthest();
        drift();
        driftsSeed();
        driftsTakers();
    }

    private void held() {
        e.terms("======== 2 A NIGHT, in this order: each TAKER, by order: is he HELD, that is 1 NIGHT less, no more;");
        EveningPoach x = Check.told("boy 0;keeper 0 0 5;");
        x.nights(1);
        for (int left = 6; left >= 0; left--) {
            e.due("nothing is taken", x.nights(1), 0);
            e.due("he is held for", x.taker(0, 3), left);
            e.due("he is not caught again", x.rule(3), 1);
        }
        x.nights(1);
        e.due("he is caught in the next night", x.rule(3), 2);
        e.due("and held for", x.taker(0, 3), 7);
        EveningPoach y = Check.told("squire 0;boy 0;net 0;gate 0 14 0;");
        y.nights(1);
        e.row("the first takes first", new int[] {12, 2, 0}, t -> y.taker(t, 2));
    }

    private void caughtInANight() {
        e.terms("else, does any KEEPER HEAR him, he is CAUGHT: HELD for 7 NIGHTS, CATCHES are 1 more (999 at most), "
            + "he takes nothing;");
        EveningPoach x = Check.told("net 0;dog 0;boy 1;keeper 0 0 3;keeper 0 0 2;keeper 0 0 1;");
        e.due("the boy alone takes", x.nights(1), 3);
        e.due("heard by several: one catch each", x.rule(3), 2);
        e.row("held", new int[] {7, 7, 0}, t -> x.taker(t, 3));
        e.row("bags", new int[] {0, 0, 3}, t -> x.taker(t, 2));
        e.due("no light is gone", x.gate(0, 0), 32);
        EveningPoach y = Check.told("net 0;keeper 0 0 4;keeper 1 0 1;keeper 0 0 3;");
        e.due("heard by the last alone", y.nights(1), 0);
        e.due("a catch", y.rule(3), 1);
    }

    /** More than 512 calls, as any way to 999 is: of so late an object nothing is promised. */
    private void mostCatches() {
        EveningPoach x = Check.told("boy 0;boy 0;boy 0;boy 0;boy 0;keeper 0 0 1;");
        for (int night = 0; night < 200; night++) {
            x.nights(1);
            for (int t = 0; t < 5 && night < 199; t++) {
                x.free(t);
            }
        }
        e.due("999 at most", x.rule(3), 999);
    }

    private void takesAllThereIs() {
        e.terms("else he takes what he TAKES of the LIGHT of his GATE, all there is at most "
            + "(LIGHT is less by that, as much is taken), into his BAG (999 at most; what is more is gone).");
        int[] taken = {0, 1, 11, 12, 12, 12};
        int[] light = {0, 1, 11, 12, 13, 60};
        for (int i = 0; i < light.length; i++) {
            EveningPoach x = Check.told("squire 3;gate 3 0 0;");
            x.tend(3, 0, light[i]);
            e.due("of a light of " + light[i], x.nights(1), taken[i]);
            e.due("left", x.gate(3, 0), light[i] - taken[i]);
            e.due("in his bag", x.taker(0, 2), taken[i]);
        }
    }

    private void bagIsFull() {
        int[] bag = {986, 987, 988, 998, 999};
        int[] then = {998, 999, 999, 999, 999};
        for (int i = 0; i < bag.length; i++) {
            EveningPoach x = Check.told("squire 3;gate 3 40 0;");
            x.alter(0, 2, bag[i]);
            e.due("taken with a bag of " + bag[i], x.nights(1), 12);
            e.due("his bag then", x.taker(0, 2), then[i]);
            e.due("light then", x.gate(3, 0), 28);
        }
    }

    private void grows() {
        e.terms("Then LIGHT of each GATE GROWS (60 at most).");
        EveningPoach x = Check.told("net 5;gate 0 50 9;gate 1 51 9;gate 2 52 9;gate 3 60 9;gate 4 60 0;gate 5 60 6;");
        x.nights(1);
        e.row("light", new int[] {59, 60, 60, 60, 60, 60}, g -> x.gate(g, 0));
        EveningPoach y = Check.told("squire 0;gate 0 0 9;");
        e.due("what grows is there in the next night", y.nights(1), 0);
        e.due("light", y.gate(0, 0), 9);
        e.due("taken then", y.nights(1), 9);
    }

    private void nightIsMore() {
        e.terms("NIGHT is 1 more.");
        EveningPoach x = new EveningPoach();
        x.nights(1);
        e.due("1", x.rule(2), 1);
        EveningPoach y = TermEdges.inNight(998);
        y.nights(1);
        e.due("999", y.rule(2), 999);
    }

    private void byNights() {
        e.terms("BY NIGHTS: as it would be from now on.");
        EveningPoach x = Check.told("boy 0;net 2;keeper 0 1 3;");
        x.nights(2);
        int[] would = {x.runs(5, 0), x.runs(5, 2), x.runs(5, 3), x.ahead(1, 5, 0), x.ahead(0, 5, 1), x.glow(2, 5)};
        e.row("nothing is changed", new int[] {2, 1, 2, 1, 192, 12}, x::rule);
        int catches = x.rule(3);
        e.due("taken", x.nights(5), would[0]);
        e.due("catches", x.rule(3) - catches, would[1]);
        e.due("light of all", x.rule(4), would[2]);
        e.due("bag", x.taker(1, 2), would[3]);
        e.due("held", x.taker(0, 3), would[4]);
        e.due("light", x.gate(2, 0), would[5]);
    }

    private void nights() {
        e.promise(16, "n NIGHTS (0 to 30): how much is taken. BAD; FULL: NIGHT would be 1000 or more.");
        EveningPoach x = Check.told("boy 0;");
        e.due("none", x.nights(0), 0);
        e.due("night", x.rule(2), 0);
        e.due("the most", x.nights(30), 88);
        e.due("night", x.rule(2), 30);
        e.bad("nights", x.nights(31), x.nights(-1), x.nights(Integer.MAX_VALUE), x.nights(Integer.MIN_VALUE));
        e.due("night", x.rule(2), 30);
        e.due("of no takers", new EveningPoach().nights(30), 0);
    }

    private void nightsAtTheLast() {
        EveningPoach x = TermEdges.inNight(969);
        e.due("to 999", x.nights(30), 60);
        e.due("night", x.rule(2), 999);
        e.due("to 1000", x.nights(1), -3);
        e.due("none more", x.nights(0), 0);
        EveningPoach y = TermEdges.inNight(970);
        int bag = y.taker(0, 2);
        e.due("30 of 29: none goes", y.nights(30), -3);
        e.due("night", y.rule(2), 970);
        e.due("bag", y.taker(0, 2), bag);
        e.due("29", y.nights(29), 58);
        e.due("night", y.rule(2), 999);
        e.bad("behind the last", y.nights(31), y.nights(-1), y.nights(Integer.MAX_VALUE));
    }

    private void runs() {
        e.promise(17, "BY NIGHTS, n of them (0 to 60): how much is taken in them (what 0), "
            + "who is CAUGHT in any of them (1; bits), how many times anybody is (2), LIGHT of all GATES then (3), "
            + "behind how many first anybody is CAUGHT (4; 1: in the first NIGHT; NONE). BAD.");
        EveningPoach x = Check.told("boy 0;dog 0;net 5;keeper 0 5 2;");
        e.row("of no nights", new int[] {0, 0, 0, 180, -4, -1}, what -> x.runs(0, what));
        e.row("of one", new int[] {12, 1, 1, 180, 1, -1}, what -> x.runs(1, what));
        e.row("of two: the net is caught in the second", new int[] {18, 5, 2, 186, 1, -1}, what -> x.runs(2, what));
        e.bad("runs", x.runs(61, 0), x.runs(-1, 0), x.runs(0, -1), x.runs(0, 6), x.runs(61, 5),
            x.runs(Integer.MAX_VALUE, 0), x.runs(Integer.MIN_VALUE, 4));
        x.nights(1);
        e.due("who is held is not caught now", x.runs(1, 1), 4);
        x.alter(2, 1, 2);
        e.due("what was caught in another question is not in this one", x.runs(1, 4), -4);
        EveningPoach none = new EveningPoach();
        e.row("of nobody", new int[] {0, 0, 0, 360, -4}, what -> none.runs(60, what));
    }

    private void runsFarthest() {
        EveningPoach x = Check.told("boy 0;keeper 0 0 5;");
        e.due("57 nights: 8 times", x.runs(57, 2), 8);
        e.due("56 nights: 7 times", x.runs(56, 2), 7);
        e.due("60 nights", x.runs(60, 2), 8);
        EveningPoach y = Check.told("boy 3;keeper 0 1 5;");
        e.due("not in 3", y.runs(3, 4), -4);
        e.due("behind 4", y.runs(4, 4), 4);
        e.due("nobody in 3", y.runs(3, 1), 0);
        e.due("he in 4", y.runs(4, 1), 1);
    }

    private void ahead() {
        e.promise(18, "BY NIGHTS, n of them (0 to 60): BAG of a TAKER then (what 0), "
            + "for how many NIGHTS he is HELD then (1). BAD.");
        EveningPoach x = Check.told("boy 0;dog 1;keeper 0 0 5;gate 1 60 9;");
        x.alter(1, 2, 640);
        e.row("held behind n", new int[] {0, 7, 6, 5, 4, 3, 2, 1, 0, 7}, n -> x.ahead(0, n, 1));
        e.due("bag behind none", x.ahead(1, 0, 0), 640);
        e.due("behind 59", x.ahead(1, 59, 0), 994);
        e.due("behind 60: 999 at most", x.ahead(1, 60, 0), 999);
        e.due("held behind 60: caught in the 57th", x.ahead(0, 60, 1), 4);
        e.bad("ahead", x.ahead(2, 0, 0), x.ahead(-1, 0, 0), x.ahead(0, 61, 0), x.ahead(0, -1, 0), x.ahead(0, 0, 2),
            x.ahead(0, 0, -1), x.ahead(0, Integer.MAX_VALUE, 0), new EveningPoach().ahead(0, 0, 0));
    }

    private void glow() {
        e.promise(19, "BY NIGHTS, n of them (0 to 60): LIGHT of a GATE then. BAD.");
        EveningPoach x = Check.told("net 0;gate 0 7 1;gate 5 1 1;gate 4 0 1;");
        e.row("where a net takes all there is", new int[] {7, 2, 1, 1}, n -> x.glow(0, n));
        e.due("behind none", x.glow(5, 0), 1);
        e.due("58 and 1", x.glow(5, 58), 59);
        e.due("59 and 1", x.glow(5, 59), 60);
        e.due("60 at most", x.glow(5, 60), 60);
        e.due("60 nights of 1", x.glow(4, 60), 60);
        e.bad("glow", x.glow(6, 0), x.glow(-1, 0), x.glow(0, 61), x.glow(0, -1), x.glow(Integer.MIN_VALUE, 0),
            x.glow(0, Integer.MAX_VALUE));
    }

    private void caught() {
        e.promise(20, "BY NIGHTS: behind how many (1 to 60) a TAKER is CAUGHT first. BAD; NONE: behind none.");
        EveningPoach x = Check.told("boy 0;boy 5;dog 0;boy 3;keeper 0 1 2;");
        e.row("caught", new int[] {1, 6, -4, 4, -1}, x::caught);
        e.bad("caught", x.caught(-1), x.caught(Integer.MAX_VALUE), x.caught(Integer.MIN_VALUE), new EveningPoach().caught(0));
        x.nights(1);
        e.due("who is held comes free behind 7, and is met in night 12", x.caught(0), 12);
        e.due("one night has gone", x.caught(1), 5);
    }

    /** Keepers meet a gate within 6 nights, so 13 is the farthest: held for 7, then 6. */
    private void caughtAtTheFarthest() {
        EveningPoach x = Check.told("boy 0;keeper 0 1 5;");
        x.nights(1);
        int farthest = 0;
        for (int start = 0; start < 6; start++) {
            x.order(0, 0, start);
            int n = x.caught(0);
            e.due("behind 8 at least, from " + start, n >= 8 && n <= 13 ? 1 : 0, 1);
            farthest = Math.max(farthest, n);
        }
        e.due("the farthest", farthest, 13);
        x.order(0, 0, 1);
        x.order(0, 1, 2);
        e.due("a keeper of odd gates, a boy at 0", x.caught(0), -4);
    }

    private void drift() {
        e.promise(35, "By itself (as it would be; nothing is changed), n NIGHTS (1 to 60) by a seed: "
            + "ahead of each the seed becomes seed times 1103515245 and 12345; bits 16 to 30 of it are got: "
            + "TAKER got modulo TAKERS goes to GATE got by 8 (down) modulo 6 from then on: "
            + "how much is taken in them (what 0), how many times anybody is CAUGHT (1). BAD; STATE: there are no TAKERS.");
        EveningPoach x = new EveningPoach();
        e.due("no takers", x.drift(0, 1, 0), -2);
        e.due("no takers", x.drift(0, 60, 1), -2);
        e.bad("no takers", x.drift(0, 0, 0), x.drift(0, 61, 0), x.drift(0, 1, 2));
        Check.tell(x, "net 0;keeper 0 0 9;");
        e.bad("drift", x.drift(0, 0, 0), x.drift(0, 61, 0), x.drift(0, -1, 0), x.drift(0, 1, 2), x.drift(0, 1, -1),
            x.drift(0, Integer.MAX_VALUE, 0), x.drift(0, Integer.MIN_VALUE, 0));
        e.due("one night", x.drift(0, 1, 0), 6);
        e.row("nothing is changed", new int[] {1, 1, 0, 0, 180, 0, 0, 0}, x::rule);
        e.due("his gate", x.taker(0, 1), 0);
    }

    /** What is more than 32 bits is gone: bits 16 to 30 are the same. */
    private void driftsSeed() {
        int[] seeds = {0, 1, -1, Integer.MAX_VALUE, Integer.MIN_VALUE, 123456789};
        for (int seed : seeds) {
            long next = (seed * 1103515245L + 12345) & 0xffffffffL;
            int got = (int) (next >> 16) & 0x7fff;
            EveningPoach x = Check.told("boy 0;net 0;squire 0;"
                + "gate 0 0 0;gate 1 1 0;gate 2 2 0;gate 3 3 0;gate 4 4 0;gate 5 5 0;");
            int most = new int[] {3, 6, 12}[got % 3];
            e.due("by the seed " + seed, x.drift(seed, 1, 0), Math.min(most, got / 8 % 6));
            EveningPoach y = Check.told("dog 0;squire 0;keeper 0 0 1;");
            y.order(0, 0, got / 8 % 6);
            int there = got / 8 % 6 == 0 ? 2 : 1;
            e.due("who is caught by the seed " + seed, y.drift(seed, 1, 1), there);
        }
    }

    /** By the seed 1: 16838, 5758, 10113, 17515. */
    private void driftsTakers() {
        EveningPoach x = Check.told("net 0;gate 0 60 0;gate 1 1 0;gate 2 2 0;gate 3 3 0;gate 4 4 0;gate 5 5 0;");
        // Gates 4, 5, 4, 5: what is taken once is gone.
        e.due("one taker, 1 night", x.drift(1, 1, 0), 4);
        e.due("2 nights", x.drift(1, 2, 0), 9);
        e.due("3 nights", x.drift(1, 3, 0), 9);
        e.due("60 nights are as told", x.drift(1, 60, 0) >= 9 ? 1 : 0, 1);
        x.hire(4, 0, 3);
        e.due("caught in the first", x.drift(1, 1, 1), 1);
        e.due("nothing is taken", x.drift(1, 1, 0), 0);
        e.due("held in the next", x.drift(1, 8, 0), 0);
        e.due("once in 8", x.drift(1, 8, 1), 1);
    }
}
