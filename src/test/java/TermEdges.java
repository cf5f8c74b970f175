/** The answers, and section 1 but for the text, at their edges. */
final class TermEdges {
    private final Edges e;

    TermEdges(Edges e) {
        this.e = e;
    }

    void run() {
        noSuch();
        firstThatFits();
        firstThatFitsOfFull();
        firstThatFitsOfNone();
        numbers();
        fractions();
        gates();
        takers();
        keepers();
        atFirst();
        placeOfAKeeper();
        placeInTheLastNight();
        takes();
        noise();
        hears();
    }

    private void noSuch() {
        e.terms("Answers: BAD -1 (a number is not as told, there is no such GATE, TAKER, KEEPER, IMAGE, SHEET), ");
        e.due("BAD", EveningPoach.BAD, -1);
        EveningPoach x = Check.told("net 0;net 1;keeper 0 0 1;");
        e.bad("a gate", x.gate(6, 0), x.gate(-1, 0), x.tend(6, 0, 1), x.glow(6, 1), x.see(1, 6, 1), x.hire(6, 0, 1));
        e.bad("a taker", x.taker(2, 0), x.taker(-1, 0), x.free(2), x.best(2, 1, 0), x.gates(2), x.luck(1, 2, 1, 0));
        e.bad("a keeper", x.keeper(1, 0), x.keeper(-1, 0), x.order(1, 0, 0), x.round(1, 1, 0), x.sharp(1, 0, 1));
        e.bad("an image", x.keep(2), x.keep(-1), x.back(2), x.back(-1));
        e.bad("a sheet", x.sheet(4, 0, 1), x.sheet(-1, 0, 1), x.lay(4, 0, 1), x.read(4, 0, 0, 1), x.read(-1, 0, 0, 0));
        EveningPoach y = new EveningPoach();
        e.bad("of a new object", y.taker(0, 0), y.keeper(0, 0), y.alter(0, 1, 1), y.order(0, 0, 1), y.caught(0), y.kinds(0));
        e.bad("at the ends of int", x.gate(Integer.MAX_VALUE, 0), x.taker(Integer.MIN_VALUE, 0),
            x.keeper(Integer.MAX_VALUE, 0), x.keep(Integer.MIN_VALUE), x.sheet(Integer.MAX_VALUE, 0, 0));
    }

    private void firstThatFits() {
        e.terms("STATE -2 (as told), FULL -3, NONE -4 (there is none), the first that fits; ");
        e.due("STATE", EveningPoach.STATE, -2);
        e.due("FULL", EveningPoach.FULL, -3);
        e.due("NONE", EveningPoach.NONE, -4);
        EveningPoach x = new EveningPoach();
        e.bad("no takers, not as told", x.drift(7, 0, 0), x.drift(7, 61, 0), x.drift(7, 1, 2), x.drift(7, 1, -1));
        e.due("no takers", x.drift(7, 1, 0), -2);
        e.bad("no image, not as told", x.back(2), x.back(-1));
        e.due("no image", x.back(1), -2);
        e.bad("nobody held, no such taker", x.free(0));
        Check.tell(x, "net 0;");
        e.due("nobody held", x.free(0), -2);
    }

    private void firstThatFitsOfFull() {
        EveningPoach x = Check.told("net 0;keeper 0 0 1;keeper 0 0 1;keeper 0 0 1;");
        e.bad("3 keepers, not as told", x.hire(6, 0, 1), x.hire(0, 6, 1), x.hire(0, 0, 10), x.hire(0, 0, 0));
        e.due("3 keepers", x.hire(0, 0, 1), -3);
        e.bad("3 keepers, not as told", x.post(0, 1, 0), x.post(10, 1, 0), x.post(1, 61, 0), x.post(1, 1, 2));
        e.due("3 keepers", x.post(1, 1, 0), -3);
        for (int i = 0; i < 6; i++) {
            x.see(1, 1, 1);
        }
        e.bad("6 seen, not as told", x.see(21, 1, 1), x.see(1, 6, 1), x.see(1, 1, 61), x.see(-1, 1, 1));
        e.due("6 seen", x.see(1, 1, 1), -3);
        EveningPoach y = inNight(999);
        e.bad("night 999, not as told", y.nights(31), y.nights(-1));
        e.due("night 999", y.nights(30), -3);
    }

    private void firstThatFitsOfNone() {
        EveningPoach x = Check.told("dog 0;keeper 1 0 9;");
        e.bad("none, not as told", x.swap(61, 0), x.swap(1, 2), x.runs(61, 4), x.sharp(0, 0, 61), x.caught(1), x.count(6));
        e.due("no two takers", x.swap(60, 0), -4);
        e.due("nobody is caught", x.runs(60, 4), -4);
        e.due("by no ear", x.sharp(0, 0, 60), -4);
        e.due("behind none", x.caught(0), -4);
        e.due("nothing", x.count(3), -4);
        x.see(0, 0, 29);
        e.bad("no gates, not as told", x.ask(1, 0), x.ask(0, 2), x.ask(0, -1));
        e.due("no gates", x.ask(0, 0), -4);
        e.due("a sheet's number goes ahead of NULL", x.lay(4, 0, 0), -1);
        e.due("NULL goes ahead of INDEX", x.lay(0, 40, 0), -11);
        e.due("a lane goes ahead of SIZE", x.sheet(0, 3, -1), -1);
    }

    static EveningPoach inNight(int night) {
        EveningPoach x = Check.told("dog 0;");
        for (int left = night; left > 0; left -= Math.min(30, left)) {
            x.nights(Math.min(30, left));
        }
        return x;
    }

    private void numbers() {
        e.terms("What is numbered has its numbers from 0 on, as it comes, where nothing else is told.");
        EveningPoach x = Check.told("net 5;net 4;keeper 2 0 1;dog 3;boy 2;keeper 1 0 2;squire 1;keeper 0 0 3;");
        e.row("a taker's gate", new int[] {5, 4, 3, 2, 1}, t -> x.taker(t, 1));
        e.row("a taker's kind", new int[] {0, 0, 1, 2, 3}, t -> x.taker(t, 0));
        e.row("a keeper's start", new int[] {2, 1, 0}, k -> x.keeper(k, 0));
        e.bad("the number of them is none", x.taker(5, 0), x.keeper(3, 0));
        x.dismiss(1);
        x.hire(4, 0, 9);
        e.row("a keeper's start", new int[] {2, 4, -1}, k -> x.keeper(k, 0));
    }

    private void fractions() {
        e.terms("Fractions are in lowest terms, told as two numbers, first the numerator, then the denominator, "
            + "which is above 0 (0 is 0 by 1).");
        EveningPoach x = Check.told("boy 0;keeper 0 0 1;");
        int[] numerators = {0, 1, 1, 3, 2, 1, 3, 7, 4, 9, 1};
        int[] denominators = {1, 10, 5, 10, 5, 2, 5, 10, 5, 10, 1};
        e.row("luck's numerator by v", numerators, v -> x.luck(v, 0, 1, 0));
        e.row("luck's denominator by v", denominators, v -> x.luck(v, 0, 1, 1));
        e.due("0 by", x.mean(0, 8, 0), 0);
        e.due("1", x.mean(0, 8, 1), 1);
        // 3 in each night that is hazy: 3 times 2 by 10.
        e.due("3 by", x.mean(2, 1, 0), 3);
        e.due("5", x.mean(2, 1, 1), 5);
        EveningPoach y = Check.told("squire 1;boy 0;net 0;keeper 0 1 2;gate 0 9 1;");
        for (int v = 0; v <= 10; v++) {
            for (int n = 0; n <= 8; n++) {
                e.due("mean's divisor by " + v + " and " + n, divisor(y.mean(v, n, 0), y.mean(v, n, 1)), 1);
                e.due("luck's divisor by " + v + " and " + n, divisor(y.luck(v, 0, n, 0), y.luck(v, 0, n, 1)), 1);
            }
        }
    }

    /** The greatest common divisor, or 0 if a number is not as a fraction's may be. */
    private static long divisor(long numerator, long denominator) {
        if (numerator < 0 || denominator <= 0) {
            return 0;
        }
        return numerator == 0 ? denominator : divisor(denominator % numerator, numerator);
    }

    private void gates() {
        e.terms("======== 1 GATES 0 to 5, each with LIGHT (0 to 60; 30 at first), that GROWS (0 to 9 in a NIGHT; 2 at first).");
        EveningPoach x = new EveningPoach();
        e.row("light at first", new int[] {30, 30, 30, 30, 30, 30, -1}, g -> x.gate(g, 0));
        e.row("growth at first", new int[] {2, 2, 2, 2, 2, 2, -1}, g -> x.gate(g, 1));
        e.due("light 60", x.tend(5, 0, 60), 30);
        e.due("light 0", x.tend(5, 0, 0), 60);
        e.due("growth 9", x.tend(5, 1, 9), 2);
        e.due("growth 0", x.tend(5, 1, 0), 9);
        e.bad("over and under", x.tend(5, 0, 61), x.tend(5, 0, -1), x.tend(5, 1, 10), x.tend(5, 1, -1));
        x.nights(30);
        e.due("what grows by 0 stays", x.gate(5, 0), 0);
        e.due("30 and 30 times 2 is 60 at most", x.gate(4, 0), 60);
    }

    private void takers() {
        e.terms("TAKERS (5 at most), by order, each of a KIND (0 net, 1 dog, 2 boy, 3 squire), who goes to a GATE, "
            + "with a BAG (0 to 999; 0 at first), HELD for so many NIGHTS (0 to 7; 0 at first: not).");
        EveningPoach x = Check.told("net 0;dog 1;boy 2;squire 5;squire 4;keeper 2 0 5;");
        e.due("5 at most", Check.tell(x, "net 0;net 0;net 0;net 0;net 0;net 0;"), -40);
        e.due("the five stay", x.rule(0), 5);
        e.row("kind", new int[] {0, 1, 2, 3, 3, -1}, t -> x.taker(t, 0));
        e.row("gate", new int[] {0, 1, 2, 5, 4, -1}, t -> x.taker(t, 1));
        e.row("bag at first", new int[] {0, 0, 0, 0, 0, -1}, t -> x.taker(t, 2));
        e.row("held at first", new int[] {0, 0, 0, 0, 0, -1}, t -> x.taker(t, 3));
        x.nights(1);
        e.row("held for 7 at most", new int[] {0, 0, 7, 0, 0, -1}, t -> x.taker(t, 3));
        e.due("bag 999", x.alter(4, 2, 999), 12);
        e.bad("over and under", x.alter(4, 2, 1000), x.alter(4, 2, -1), x.alter(4, 0, 4), x.alter(4, 1, 6));
    }

    private void keepers() {
        e.terms("KEEPERS (3 at most), by order, each with a START (a GATE), a STEP (0 to 5), an EAR (1 to 9).");
        EveningPoach x = Check.told("keeper 0 0 1;keeper 5 5 9;keeper 3 1 4;");
        e.due("3 at most", x.hire(0, 0, 1), -3);
        e.row("start", new int[] {0, 5, 3, -1}, k -> x.keeper(k, 0));
        e.row("step", new int[] {0, 5, 1, -1}, k -> x.keeper(k, 1));
        e.row("ear", new int[] {1, 9, 4, -1}, k -> x.keeper(k, 2));
        e.bad("over", x.order(2, 0, 6), x.order(2, 1, 6), x.order(2, 2, 10));
        e.bad("under", x.order(2, 0, -1), x.order(2, 1, -1), x.order(2, 2, 0));
    }

    private void atFirst() {
        e.terms("NIGHT, CATCHES (0 at first).");
        EveningPoach x = new EveningPoach();
        e.due("night", x.rule(2), 0);
        e.due("catches", x.rule(3), 0);
    }

    private void placeOfAKeeper() {
        e.terms("A KEEPER is AT the GATE which START and NIGHT times STEP leave by 6.");
        EveningPoach x = Check.told("keeper 5 1 1;keeper 5 5 1;keeper 4 0 1;");
        int[][] places = {{5, 5, 4}, {0, 4, 4}, {1, 3, 4}, {2, 2, 4}, {3, 1, 4}, {4, 0, 4}, {5, 5, 4}, {0, 4, 4}};
        for (int night = 0; night < places.length; night++) {
            e.row("at, in night " + night, places[night], k -> x.keeper(k, 3));
            x.nights(1);
        }
        x.dismiss(0);
        x.hire(0, 2, 1);
        x.hire(1, 3, 1);
        x.hire(5, 4, 1);
        // Night 8: 16, 1 and 24, 5 and 32.
        e.row("at, in night 8", new int[] {4, 1, 1}, k -> x.keeper(k, 3));
    }

    private void placeInTheLastNight() {
        EveningPoach x = inNight(999);
        x.hire(0, 1, 1);
        x.hire(5, 5, 1);
        x.hire(2, 0, 1);
        // 999 leaves 3; 5 and 4995 leave 2.
        e.row("at, in night 999", new int[] {3, 2, 2}, k -> x.keeper(k, 3));
    }

    private void takes() {
        e.terms("TAKES by KIND, in a NIGHT: net 6; dog as a net; boy half of that of a net; squire four times that of a boy.");
        EveningPoach x = Check.told("net 0;dog 1;boy 2;squire 3;gate 0 6 0;gate 1 5 0;gate 2 4 0;gate 3 60 0;");
        e.row("takes", new int[] {6, 6, 3, 12}, t -> x.taker(t, 4));
        x.nights(1);
        e.row("what is left", new int[] {0, 0, 1, 48}, g -> x.gate(g, 0));
        e.row("what is in the bag", new int[] {6, 5, 3, 12}, t -> x.taker(t, 2));
    }

    private void noise() {
        e.terms("NOISE by KIND: net 3; dog 2 less than a net; boy 2 more than a net; squire as a boy.");
        EveningPoach x = Check.told("net 0;dog 1;boy 2;squire 3;");
        e.row("noise", new int[] {3, 1, 5, 5}, t -> x.taker(t, 5));
    }

    private void hears() {
        e.terms("A KEEPER HEARS a TAKER, if he is AT his GATE, and NOISE is EAR or more.");
        EveningPoach x = Check.told("net 4;dog 4;boy 4;squire 4;keeper 4 0 1;");
        int[] heard = {0, 0b1111, 0b1101, 0b1101, 0b1100, 0b1100, 0, 0, 0, 0};
        for (int ear = 1; ear <= 9; ear++) {
            x.order(0, 2, ear);
            e.due("who is heard by an ear of " + ear, x.rule(7), heard[ear]);
            e.due("who is caught by an ear of " + ear, x.runs(1, 1), heard[ear]);
        }
        x.order(0, 2, 1);
        for (int g = 0; g < 6; g++) {
            x.order(0, 0, g);
            e.due("who is heard from gate " + g, x.rule(7), g == 4 ? 0b1111 : 0);
        }
    }
}
