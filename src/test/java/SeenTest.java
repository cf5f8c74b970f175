/** Promises 30 to 34: what was gone. */
public final class SeenTest {
    private static final Check CHECK = new Check();

    public static void main(String[] args) {
        seeAndForget();
        kindsAndGates();
        fromWhenItIsAsked();
        ask();
        askByAnother();
        askBehindTwentyNights();
        CHECK.finish("SeenTest");
    }

    private static void seeAndForget() {
        EveningPoach x = new EveningPoach();
        int[][] wrong = {{-1, 0, 0}, {21, 0, 0}, {0, -1, 0}, {0, 6, 0}, {0, 0, -1}, {0, 0, 61}};
        for (int[] w : wrong) {
            CHECK.due("see not as told", x.see(w[0], w[1], w[2]), -1);
        }
        CHECK.due("forget(1) of none", x.forget(1), -1);
        for (int i = 1; i <= 6; i++) {
            CHECK.due("see " + i, x.see(20, 5, 60), i);
        }
        CHECK.due("a 7th", x.see(0, 0, 0), -3);
        CHECK.due("not as told goes ahead", x.see(0, 0, 61), -1);
        CHECK.due("forget(7)", x.forget(7), -1);
        CHECK.due("forget(-1)", x.forget(-1), -1);
        CHECK.due("forget(2)", x.forget(2), 6);
        CHECK.due("forget(3)", x.forget(3), -1);
        CHECK.due("count(0)", x.count(0), 2);
        CHECK.due("forget(0)", x.forget(0), 2);
        CHECK.due("forget(0) of none", x.forget(0), 0);
    }

    private static void kindsAndGates() {
        EveningPoach x = Check.told("net 0;");
        CHECK.due("kinds, nothing seen", x.kinds(0), 15);
        CHECK.due("gates, nothing seen", x.gates(0), 63);
        x.see(1, 0, 26);
        CHECK.due("kinds: net, dog", x.kinds(0), 3);
        CHECK.due("gates: his", x.gates(0), 1);
        x.see(2, 0, 22);
        CHECK.due("kinds by two seen", x.kinds(0), 3);
        x.see(2, 0, 23);
        CHECK.due("kinds by what can not be", x.kinds(0), 0);
        CHECK.due("gates by what can not be", x.gates(0), 0);
        x.forget(0);
        x.see(1, 0, 32);
        CHECK.due("kinds: none leaves all", x.kinds(0), 0);
        CHECK.due("gates: any other", x.gates(0), 62);
        x.forget(0);
        x.see(1, 0, 29);
        CHECK.due("kinds: boy", x.kinds(0), 4);
        x.forget(0);
        x.see(1, 0, 20);
        CHECK.due("kinds: squire", x.kinds(0), 8);
        x.forget(0);
        x.see(0, 0, 30);
        CHECK.due("light as it is", x.kinds(0), 15);
        x.see(0, 3, 29);
        CHECK.due("light as it is not", x.kinds(0), 0);
        x.forget(0);
        x.see(20, 1, 60);
        CHECK.due("behind 20 nights", x.gates(0), 61);
        CHECK.due("nothing is changed", x.rule(2), 0);
        CHECK.due("kinds(1)", x.kinds(1), -1);
        CHECK.due("kinds(-1)", x.kinds(-1), -1);
        CHECK.due("gates(1)", x.gates(1), -1);
        CHECK.due("gates(-1)", x.gates(-1), -1);
    }

    private static void fromWhenItIsAsked() {
        EveningPoach x = Check.told("net 0;");
        x.see(1, 0, 26);
        x.nights(1);
        CHECK.due("kinds from how it stands", x.kinds(0), 0);
        CHECK.due("gates from how it stands", x.gates(0), 0);
        x.forget(0);
        x.see(1, 0, 22);
        CHECK.due("kinds anew", x.kinds(0), 3);
    }

    private static void ask() {
        EveningPoach x = Check.told("net 0;");
        CHECK.due("in the next night, at the first gate", x.ask(0, 0), 10);
        CHECK.due("5 are left at the worst", x.ask(0, 1), 5);
        for (int g = 0; g < 4; g++) {
            x.see(1, g, 32);
        }
        CHECK.due("of 4 and 5", x.gates(0), 48);
        CHECK.due("at 4", x.ask(0, 0), 14);
        CHECK.due("one is left", x.ask(0, 1), 1);
        x.see(1, 4, 32);
        CHECK.due("of one: none fewer", x.ask(0, 0), -4);
        CHECK.due("of one: none fewer", x.ask(0, 1), -4);
        x.see(1, 5, 32);
        CHECK.due("of none", x.ask(0, 0), -4);
        x.forget(0);
        CHECK.due("ask(1, 0)", x.ask(1, 0), -1);
        CHECK.due("ask(-1, 0)", x.ask(-1, 0), -1);
        CHECK.due("ask(0, 2)", x.ask(0, 2), -1);
        CHECK.due("ask(0, -1)", x.ask(0, -1), -1);
        EveningPoach y = Check.told("boy 0;keeper 0 1 1;gate 0 60 9;");
        CHECK.due("what a gate of 60 shows is nothing", y.gates(0), 63);
        CHECK.due("the boy is caught at 0", y.glow(0, 3), 60);
        CHECK.due("so it is gate 1 behind one night", y.ask(0, 0), 11);
    }

    private static void askByAnother() {
        // Where he is with the squire, less is left of little light: the look at 0 tells 0 from the others.
        EveningPoach x = Check.told("boy 0;squire 0;gate 0 12 0;gate 1 0 0;gate 2 0 0;gate 3 0 0;gate 4 0 0;gate 5 9 0;");
        CHECK.due("a look at 0 tells nothing: all is gone", x.glow(0, 1), 0);
        CHECK.due("a look at 5", x.ask(0, 0), 15);
        CHECK.due("5 are left", x.ask(0, 1), 5);
        x.alter(1, 0, 2);
        CHECK.due("with a boy it shows at 0", x.ask(0, 0), 10);
    }

    /** All gates are full and stay so with the dog alone; with the squire, who is caught in nights 0, 8, 16, none does. */
    private static void askBehindTwentyNights() {
        EveningPoach x = Check.told("dog 0;squire 5;keeper 3 1 5;keeper 1 1 5;keeper 5 0 5;"
            + "gate 0 60 9;gate 1 60 9;gate 2 60 9;gate 3 60 9;gate 4 60 9;gate 5 60 9;");
        x.nights(4);
        x.dismiss(2);
        CHECK.due("behind 21 nights it would show: none", x.ask(0, 0), -4);
        CHECK.due("none", x.ask(0, 1), -4);
        x.nights(1);
        CHECK.due("behind 20 it shows", x.ask(0, 0), 205);
        CHECK.due("5 are left", x.ask(0, 1), 5);
    }
}
