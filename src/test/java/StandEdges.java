/** Promises 6 to 15 at their edges: what there is, what is changed. */
final class StandEdges {
    private static final String ESTATE = "net 0;dog 0;boy 3;squire 1;boy 3;keeper 0 1 3;keeper 3 0 5;gate 0 40 3;gate 3 2 0;";

    private final Edges e;

    StandEdges(Edges e) {
        this.e = e;
    }

    void run() {
        ruleOfNothing();
        ruleOfMost();
        ruleOfHeld();
        gate();
        taker();
        keeper();
        alter();
        alterCounts();
        order();
        orderCounts();
        tend();
        free();
        freeThenCaught();
        hire();
        dismiss();
    }

    private void ruleOfNothing() {
        e.promise(6, "0 TAKERS, 1 KEEPERS, 2 NIGHT, 3 CATCHES, 4 LIGHT of all GATES, 5 BAGS of all, 6 who is HELD (bits), "
            + "7 who would be CAUGHT in this NIGHT (bits). BAD.");
        EveningPoach x = new EveningPoach();
        e.row("rule", new int[] {0, 0, 0, 0, 180, 0, 0, 0, -1}, x::rule);
        e.bad("rule", x.rule(-1), x.rule(9), x.rule(Integer.MAX_VALUE), x.rule(Integer.MIN_VALUE));
        for (int g = 0; g < 6; g++) {
            x.tend(g, 0, 0);
        }
        e.due("no light", x.rule(4), 0);
        for (int g = 0; g < 6; g++) {
            x.tend(g, 0, 60);
        }
        e.due("all light", x.rule(4), 360);
    }

    private void ruleOfMost() {
        EveningPoach x = Check.told("boy 5;boy 5;boy 5;boy 5;boy 5;keeper 5 0 5;keeper 5 0 5;keeper 5 0 5;");
        for (int t = 0; t < 5; t++) {
            x.alter(t, 2, 999);
        }
        e.row("rule", new int[] {5, 3, 0, 0, 180, 4995, 0, 31}, x::rule);
        x.nights(1);
        e.row("rule behind a night", new int[] {5, 3, 1, 5, 192, 4995, 31, 0}, x::rule);
    }

    private void ruleOfHeld() {
        EveningPoach x = Check.told("dog 0;boy 0;keeper 0 0 2;");
        x.nights(1);
        x.nights(6);
        e.due("held for 1 night still", x.rule(6), 2);
        e.due("who is held would not be caught", x.rule(7), 0);
        x.nights(1);
        e.due("held no more", x.rule(6), 0);
        e.due("then he would be", x.rule(7), 2);
    }

    private void gate() {
        e.promise(7, "Of a GATE: 0 LIGHT, 1 how much it GROWS, 2 TAKERS who go there (bits), "
            + "3 KEEPERS AT it in this NIGHT (bits). BAD.");
        EveningPoach x = Check.told(ESTATE);
        e.row("gate 0", new int[] {40, 3, 0b00011, 0b01, -1}, what -> x.gate(0, what));
        e.row("gate 3", new int[] {2, 0, 0b10100, 0b10, -1}, what -> x.gate(3, what));
        e.row("gate 5", new int[] {30, 2, 0, 0, -1}, what -> x.gate(5, what));
        e.bad("gate", x.gate(6, 0), x.gate(-1, 0), x.gate(0, -1), x.gate(0, 5), x.gate(6, 4), x.gate(Integer.MIN_VALUE, 0));
        x.nights(3);
        e.row("gate 3 in night 3: both keepers, who is held goes there still", new int[] {2, 0, 0b10100, 0b11},
            what -> x.gate(3, what));
        EveningPoach y = Check.told("net 2;net 2;net 2;net 2;net 2;keeper 2 0 9;keeper 2 0 9;keeper 2 0 9;");
        e.due("all five", y.gate(2, 2), 31);
        e.due("all three", y.gate(2, 3), 7);
    }

    private void taker() {
        e.promise(8, "Of a TAKER: 0 KIND, 1 GATE, 2 BAG, 3 for how many NIGHTS he is HELD, 4 what he TAKES, 5 NOISE. BAD.");
        EveningPoach x = Check.told(ESTATE);
        x.nights(1);
        e.row("the net", new int[] {0, 0, 0, 7, 6, 3, -1}, what -> x.taker(0, what));
        e.row("the dog", new int[] {1, 0, 6, 0, 6, 1, -1}, what -> x.taker(1, what));
        e.row("the last boy", new int[] {2, 3, 0, 7, 3, 5, -1}, what -> x.taker(4, what));
        e.row("the squire", new int[] {3, 1, 12, 0, 12, 5, -1}, what -> x.taker(3, what));
        e.bad("taker", x.taker(5, 0), x.taker(-1, 0), x.taker(0, -1), x.taker(0, 7), x.taker(Integer.MAX_VALUE, 0));
        e.bad("of none", new EveningPoach().taker(0, 0));
    }

    private void keeper() {
        e.promise(9, "Of a KEEPER: 0 START, 1 STEP, 2 EAR, 3 AT. BAD.");
        EveningPoach x = Check.told("keeper 5 5 9;keeper 0 0 1;");
        e.row("the first", new int[] {5, 5, 9, 5, -1}, what -> x.keeper(0, what));
        e.row("the second", new int[] {0, 0, 1, 0, -1}, what -> x.keeper(1, what));
        x.nights(5);
        e.row("the first in night 5: 30 leaves 0", new int[] {5, 5, 9, 0}, what -> x.keeper(0, what));
        e.bad("keeper", x.keeper(2, 0), x.keeper(-1, 0), x.keeper(0, -1), x.keeper(0, 5), x.keeper(Integer.MIN_VALUE, 0));
        e.bad("of none", new EveningPoach().keeper(0, 0));
        x.dismiss(1);
        e.bad("of one who is dismissed", x.keeper(1, 0));
    }

    private void alter() {
        e.promise(10, "KIND, GATE, BAG (what 0 to 2) of a TAKER becomes v: what it was. BAD.");
        EveningPoach x = Check.told(ESTATE);
        int[] most = {3, 5, 999};
        int[] was = {2, 3, 0};
        for (int what = 0; what < 3; what++) {
            e.due("to the most", x.alter(4, what, most[what]), was[what]);
            e.due("to the same", x.alter(4, what, most[what]), most[what]);
            e.bad("over and under", x.alter(4, what, most[what] + 1), x.alter(4, what, -1),
                x.alter(4, what, Integer.MAX_VALUE), x.alter(4, what, Integer.MIN_VALUE));
            e.due("to the least: what is refused changed nothing", x.alter(4, what, 0), most[what]);
        }
        e.bad("alter", x.alter(5, 0, 0), x.alter(-1, 0, 0), x.alter(0, 3, 0), x.alter(0, -1, 0), x.alter(5, 3, 0));
        e.due("the others are as they were", x.taker(2, 1), 3);
    }

    private void alterCounts() {
        EveningPoach x = Check.told("boy 0;keeper 0 0 5;");
        x.nights(1);
        x.alter(0, 1, 1);
        x.alter(0, 0, 0);
        x.alter(0, 2, 50);
        e.due("who is altered is held still", x.taker(0, 3), 7);
        x.nights(7);
        e.due("then he takes as a net, where he goes", x.nights(1), 6);
        e.due("his bag", x.taker(0, 2), 56);
    }

    private void order() {
        e.promise(11, "START, STEP, EAR (what 0 to 2) of a KEEPER becomes v: what it was. BAD.");
        EveningPoach x = Check.told("keeper 1 1 2;keeper 2 3 4;");
        int[] least = {0, 0, 1};
        int[] most = {5, 5, 9};
        int[] was = {2, 3, 4};
        for (int what = 0; what < 3; what++) {
            e.due("to the most", x.order(1, what, most[what]), was[what]);
            e.due("to the same", x.order(1, what, most[what]), most[what]);
            e.bad("over and under", x.order(1, what, most[what] + 1), x.order(1, what, least[what] - 1),
                x.order(1, what, Integer.MAX_VALUE), x.order(1, what, Integer.MIN_VALUE));
            e.due("to the least: what is refused changed nothing", x.order(1, what, least[what]), most[what]);
        }
        e.bad("order", x.order(2, 0, 1), x.order(-1, 0, 1), x.order(0, 3, 1), x.order(0, -1, 1), x.order(2, 3, 1));
        e.row("the other is as he was", new int[] {1, 1, 2}, what -> x.keeper(0, what));
    }

    private void orderCounts() {
        EveningPoach x = Check.told("keeper 1 0 2;");
        x.nights(4);
        x.order(0, 1, 5);
        e.due("a step counts from night 0 on: 21 leaves 3", x.keeper(0, 3), 3);
        x.order(0, 0, 3);
        e.due("23 leaves 5", x.keeper(0, 3), 5);
    }

    private void tend() {
        e.promise(12, "LIGHT, how much it GROWS (what 0, 1) of a GATE becomes v: what it was. BAD.");
        EveningPoach x = new EveningPoach();
        int[] most = {60, 9};
        int[] was = {30, 2};
        for (int what = 0; what < 2; what++) {
            e.due("to the most", x.tend(5, what, most[what]), was[what]);
            e.due("to the same", x.tend(5, what, most[what]), most[what]);
            e.bad("over and under", x.tend(5, what, most[what] + 1), x.tend(5, what, -1),
                x.tend(5, what, Integer.MAX_VALUE), x.tend(5, what, Integer.MIN_VALUE));
            e.due("to the least: what is refused changed nothing", x.tend(5, what, 0), most[what]);
            e.due("the first gate", x.tend(0, what, 1), was[what]);
        }
        e.bad("tend", x.tend(6, 0, 0), x.tend(-1, 0, 0), x.tend(0, 2, 0), x.tend(0, -1, 0), x.tend(6, 2, 0));
    }

    private void free() {
        e.promise(13, "A TAKER is let go: for how many NIGHTS he was HELD. BAD; STATE: he is not.");
        for (int gone = 0; gone <= 7; gone++) {
            EveningPoach x = Check.told("dog 0;boy 0;keeper 0 0 5;");
            x.nights(1);
            x.nights(gone);
            e.due("behind " + gone + " of his nights", x.free(1), gone == 7 ? -2 : 7 - gone);
            e.due("he is not", x.free(1), -2);
        }
        EveningPoach y = Check.told("boy 0;boy 0;keeper 0 0 5;");
        e.due("never caught", y.free(0), -2);
        e.bad("free", y.free(2), y.free(-1), y.free(Integer.MAX_VALUE), y.free(Integer.MIN_VALUE), new EveningPoach().free(0));
        y.nights(1);
        e.due("the first", y.free(0), 7);
        e.due("the second is held still", y.rule(6), 2);
        e.due("catches stay", y.rule(3), 2);
    }

    private void freeThenCaught() {
        EveningPoach x = Check.told("boy 0;keeper 0 0 5;");
        x.nights(1);
        x.free(0);
        x.nights(1);
        e.due("who is let go is caught anew", x.free(0), 7);
        x.dismiss(0);
        e.due("who is let go takes", x.nights(1), 3);
    }

    private void hire() {
        e.promise(14, "A KEEPER more: how many there are. BAD; FULL.");
        EveningPoach x = new EveningPoach();
        int[][] wrong = {{6, 0, 1}, {-1, 0, 1}, {0, 6, 1}, {0, -1, 1}, {0, 0, 0}, {0, 0, 10},
            {Integer.MAX_VALUE, 0, 1}, {0, Integer.MIN_VALUE, 1}, {0, 0, Integer.MAX_VALUE}, {6, 6, 10}};
        for (int[] w : wrong) {
            e.bad("the first", x.hire(w[0], w[1], w[2]));
        }
        e.due("the most", x.hire(5, 5, 9), 1);
        e.due("the least", x.hire(0, 0, 1), 2);
        e.due("a third", x.hire(1, 2, 3), 3);
        e.due("a fourth", x.hire(1, 2, 3), -3);
        for (int[] w : wrong) {
            e.bad("a fourth", x.hire(w[0], w[1], w[2]));
        }
        e.row("the first", new int[] {5, 5, 9, 5}, what -> x.keeper(0, what));
        e.row("the second", new int[] {0, 0, 1, 0}, what -> x.keeper(1, what));
        e.row("the third", new int[] {1, 2, 3, 1}, what -> x.keeper(2, what));
        EveningPoach y = Check.told("keeper 0 0 1;keeper 0 0 1;keeper 0 0 1;");
        e.due("where a text told three", y.hire(0, 0, 1), -3);
    }

    private void dismiss() {
        e.promise(15, "KEEPERS are the first n alone: how many there were. BAD (n above that, too).");
        EveningPoach x = new EveningPoach();
        e.due("0 of none", x.dismiss(0), 0);
        e.bad("of none", x.dismiss(1), x.dismiss(-1), x.dismiss(Integer.MAX_VALUE), x.dismiss(Integer.MIN_VALUE));
        Check.tell(x, "boy 2;keeper 0 0 1;keeper 1 0 2;keeper 2 0 3;");
        e.bad("of 3", x.dismiss(4), x.dismiss(-1));
        e.due("3 of 3", x.dismiss(3), 3);
        e.due("2 of 3", x.dismiss(2), 3);
        e.row("the first two", new int[] {1, 2, -1}, k -> x.keeper(k, 2));
        e.due("who is dismissed hears nobody", x.rule(7), 0);
        e.due("and is nowhere", x.gate(2, 3), 0);
        e.bad("of 2", x.dismiss(3));
        e.due("0 of 2", x.dismiss(0), 2);
        e.due("one anew", x.hire(2, 0, 4), 1);
        e.due("his ear", x.keeper(0, 2), 4);
    }
}
