/** What is SEEN in section 2, and promises 30 to 34, at their edges. */
final class SeenEdges {
    private final Edges e;

    SeenEdges(Edges e) {
        this.e = e;
    }

    void run() {
        seen();
        see();
        forget();
        kinds();
        kindsOfNone();
        gates();
        ask();
        askForNone();
        askFarthest();
    }

    private void seen() {
        e.terms("SEEN (6): behind n NIGHTS (0 to 20) from how it stands when that is asked of (not from see() on) "
            + "LIGHT of a GATE is v.");
        EveningPoach x = Check.told("net 0;");
        x.see(1, 0, 26);
        e.due("kinds, as it stands", x.kinds(0), 0b0011);
        x.nights(1);
        e.due("kinds, a night later", x.kinds(0), 0);
        x.tend(0, 0, 30);
        e.due("kinds, light as it was", x.kinds(0), 0b0011);
        x.keep(0);
        x.tend(0, 0, 29);
        e.due("kinds, light changed", x.kinds(0), 0);
        x.back(0);
        e.due("kinds, from the image", x.kinds(0), 0b0011);
        for (int i = 2; i <= 6; i++) {
            e.due("seen", x.see(1, 0, 26), i);
        }
        e.due("a 7th", x.see(1, 0, 26), -3);
    }

    private void see() {
        e.promise(30, "SEEN: behind n NIGHTS (0 to 20) LIGHT of a GATE is v (0 to 60): how many are. BAD; FULL.");
        EveningPoach x = new EveningPoach();
        int[][] wrong = {{-1, 0, 0}, {21, 0, 0}, {0, -1, 0}, {0, 6, 0}, {0, 0, -1}, {0, 0, 61},
            {Integer.MAX_VALUE, 0, 0}, {0, Integer.MIN_VALUE, 0}, {0, 0, Integer.MAX_VALUE}, {21, 6, 61}};
        for (int[] w : wrong) {
            e.bad("the first", x.see(w[0], w[1], w[2]));
        }
        e.due("none is seen", x.count(0), 0);
        e.due("the least", x.see(0, 0, 0), 1);
        e.due("the most", x.see(20, 5, 60), 2);
        for (int i = 3; i <= 6; i++) {
            e.due("the same again", x.see(20, 5, 60), i);
        }
        e.due("a 7th", x.see(0, 0, 0), -3);
        for (int[] w : wrong) {
            e.bad("a 7th", x.see(w[0], w[1], w[2]));
        }
        x.forget(5);
        e.due("a 6th anew", x.see(0, 0, 0), 6);
    }

    private void forget() {
        e.promise(31, "SEEN are the first n alone: how many there were. BAD (n above that, too).");
        EveningPoach x = Check.told("net 0;");
        e.due("0 of none", x.forget(0), 0);
        e.bad("of none", x.forget(1), x.forget(-1), x.forget(Integer.MAX_VALUE), x.forget(Integer.MIN_VALUE));
        x.see(1, 0, 26);
        x.see(2, 0, 22);
        x.see(2, 0, 23);
        e.due("all three can not be", x.kinds(0), 0);
        e.bad("of 3", x.forget(4), x.forget(-1));
        e.due("3 of 3", x.forget(3), 3);
        e.due("2 of 3", x.forget(2), 3);
        e.due("the first two can be", x.kinds(0), 0b0011);
        e.bad("of 2", x.forget(3));
        e.due("0 of 2", x.forget(0), 2);
        e.due("none", x.count(0), 0);
        x.see(1, 0, 29);
        e.due("what is seen anew", x.kinds(0), 0b0100);
    }

    private static int kindsIfSeen(int n, int g, int v) {
        EveningPoach x = Check.told("net 0;");
        x.see(n, g, v);
        return x.kinds(0);
    }

    private void kinds() {
        e.promise(32, "KINDS of a TAKER (bits) by which, all else as it is, all is as SEEN. BAD.");
        EveningPoach x = Check.told("net 0;");
        e.due("nothing is seen: all", x.kinds(0), 0b1111);
        e.due("behind none, as it is", kindsIfSeen(0, 0, 30), 0b1111);
        e.due("behind none, as it is not", kindsIfSeen(0, 0, 31), 0);
        e.due("behind 1, of a net", kindsIfSeen(1, 0, 26), 0b0011);
        e.due("behind 1, of a boy", kindsIfSeen(1, 0, 29), 0b0100);
        e.due("behind 1, of a squire", kindsIfSeen(1, 0, 20), 0b1000);
        e.due("behind 20, of all but a boy", kindsIfSeen(20, 0, 2), 0b1011);
        e.due("behind 20, of a boy", kindsIfSeen(20, 0, 10), 0b0100);
        e.due("behind 20, another gate", kindsIfSeen(20, 5, 60), 0b1111);
        e.due("behind 20, another gate, as it can not be", kindsIfSeen(20, 5, 59), 0);
        e.due("his kind stays", x.taker(0, 0), 0);
        e.bad("kinds", x.kinds(1), x.kinds(-1), x.kinds(Integer.MAX_VALUE), x.kinds(Integer.MIN_VALUE),
            new EveningPoach().kinds(0));
    }

    private void kindsOfNone() {
        EveningPoach x = Check.told("boy 0;boy 1;keeper 0 0 5;");
        for (int i = 0; i < 5; i++) {
            x.see(1, 0, 32);
        }
        e.due("the boy or the squire, who are caught", x.kinds(0), 0b1100);
        x.see(1, 1, 29);
        e.due("the other boy is as he is", x.kinds(0), 0b1100);
        x.forget(5);
        x.see(1, 1, 28);
        e.due("the 6th can not be", x.kinds(0), 0);
        EveningPoach y = Check.told("boy 0;keeper 0 0 5;");
        y.nights(1);
        y.see(7, 0, 46);
        e.due("who is held takes nothing, of any kind", y.kinds(0), 0b1111);
        y.see(8, 0, 48);
        e.due("then the boy and the squire are caught", y.kinds(0), 0b1100);
    }

    private static int gatesIfSeen(int n, int g, int v) {
        EveningPoach x = Check.told("net 0;");
        x.see(n, g, v);
        return x.gates(0);
    }

    private void gates() {
        e.promise(33, "GATES to which a TAKER may go (bits), all else as it is, so that all is as SEEN. BAD.");
        EveningPoach x = Check.told("net 3;");
        e.due("nothing is seen: all", x.gates(0), 0b111111);
        e.due("behind none, as it is", gatesIfSeen(0, 5, 30), 0b111111);
        e.due("behind none, as it is not", gatesIfSeen(0, 5, 29), 0);
        e.due("behind 1, the first", gatesIfSeen(1, 0, 26), 001);
        e.due("behind 1, the last", gatesIfSeen(1, 5, 26), 0b100000);
        e.due("behind 1, not the last", gatesIfSeen(1, 5, 32), 0b011111);
        e.due("behind 20, the last", gatesIfSeen(20, 5, 2), 0b100000);
        e.due("behind 20, not the last", gatesIfSeen(20, 5, 60), 0b011111);
        e.due("as it can not be", gatesIfSeen(20, 5, 59), 0);
        e.due("his gate stays", x.taker(0, 1), 3);
        e.bad("gates", x.gates(1), x.gates(-1), x.gates(Integer.MAX_VALUE), x.gates(Integer.MIN_VALUE),
            new EveningPoach().gates(0));
        for (int g = 0; g < 5; g++) {
            x.see(1, g, 32);
        }
        e.due("by five seen the last is left", x.gates(0), 0b100000);
        x.see(1, 5, 32);
        e.due("by six none is", x.gates(0), 0);
    }

    private void ask() {
        e.promise(34, "Behind how many NIGHTS (0 to 20), at which GATE to look how much LIGHT it has, "
            + "so that of gates() of a TAKER fewest are left at the worst, fewer than now: "
            + "10 times the NIGHTS and the GATE, of several the least (what 0), how many these are (1). BAD; NONE: none.");
        EveningPoach x = Check.told("net 3;");
        e.due("behind none nothing shows: behind 1, the first gate", x.ask(0, 0), 10);
        e.due("5 of 6 are left", x.ask(0, 1), 5);
        for (int g = 0; g < 4; g++) {
            x.see(1, g, 32);
        }
        e.due("of the last two the fifth", x.ask(0, 0), 14);
        e.due("one of two is left", x.ask(0, 1), 1);
        e.bad("ask", x.ask(1, 0), x.ask(-1, 0), x.ask(0, 2), x.ask(0, -1), x.ask(Integer.MAX_VALUE, 0),
            x.ask(0, Integer.MIN_VALUE), new EveningPoach().ask(0, 0));
        e.due("his gate stays", x.taker(0, 1), 3);
        e.due("nothing more is seen", x.count(0), 4);
    }

    private void askForNone() {
        EveningPoach x = Check.told("net 3;");
        for (int g = 0; g < 5; g++) {
            x.see(1, g, 32);
        }
        e.due("of one: none is fewer", x.ask(0, 0), -4);
        e.due("of one: none is fewer", x.ask(0, 1), -4);
        x.see(1, 5, 32);
        e.due("of none", x.ask(0, 0), -4);
        e.due("of none", x.ask(0, 1), -4);
        EveningPoach y = new EveningPoach();
        Check.tell(y, "boy 0;gate 0 0 0;gate 1 0 0;gate 2 0 0;gate 3 0 0;gate 4 0 0;gate 5 0 0;");
        e.due("of six where nothing ever shows", y.ask(0, 0), -4);
        y.tend(5, 0, 1);
        e.due("where the last shows", y.ask(0, 0), 15);
    }

    /** All gates are full and stay so with the dog alone; with the squire, who is caught in nights 0, 8, 16, none does. */
    private void askFarthest() {
        EveningPoach x = Check.told("dog 0;squire 5;keeper 3 1 5;keeper 1 1 5;keeper 5 0 5;"
            + "gate 0 60 9;gate 1 60 9;gate 2 60 9;gate 3 60 9;gate 4 60 9;gate 5 60 9;");
        x.nights(4);
        x.dismiss(2);
        e.due("behind 21 it would show", x.ask(0, 0), -4);
        x.nights(1);
        e.due("behind 20 it shows", x.ask(0, 0), 205);
        e.due("5 are left", x.ask(0, 1), 5);
    }
}
