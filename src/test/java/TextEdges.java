/** The text of section 1, and promises 1 to 5, at their edges. */
final class TextEdges {
    private static final String FIVE_TAKERS = "net0;dog1;boy2;boy3;net4;";
    private static final String THREE_KEEPERS = "keeper0 0 1;keeper1 1 5;keeper2 2 9;";
    private static final String SIX_GATES = "gate0 0 0;gate1 1 1;gate2 2 2;gate3 3 3;gate4 4 4;gate5 5 5;";

    private final Edges e;

    TextEdges(Edges e) {
        this.e = e;
    }

    void run() {
        tape();
        everyByte();
        tokensAsLongAsMayBe();
        blanks();
        figures();
        lines();
        whatLinesTell();
        noToken();
        canNotStandThere();
        theEnd();
        outOfBounds();
        toldAlready();
        tooMany();
        inPlace();
        newObject();
        feed();
        end();
        text();
        textLeaves();
        fault();
    }

    private void taken(String text, int lines) {
        EveningPoach x = new EveningPoach();
        e.due("'" + text + "'", Check.tell(x, text), lines);
        e.due("no fault of '" + text + "'", x.fault(), 0);
    }

    private void refused(String text, int fault, int place) {
        EveningPoach x = new EveningPoach();
        e.due("'" + text + "'", Check.tell(x, text), -10 - place);
        e.due("fault of '" + text + "'", x.fault(), fault);
        e.due("takers behind '" + text + "'", x.rule(0), 0);
        e.due("keepers behind '" + text + "'", x.rule(1), 0);
        e.due("light behind '" + text + "'", x.rule(4), 180);
    }

    private void tape() {
        e.terms("THE TAPE has 160 bytes, places from 0.");
        taken(" ".repeat(160), 0);
        taken(" ".repeat(155) + "net5;", 1);
        refused("@" + " ".repeat(159), 1, 0);
        refused(" ".repeat(159) + "@", 1, 159);
        refused(" ".repeat(157) + "net", 2, 160);
        EveningPoach x = new EveningPoach();
        Check.feed(x, " ".repeat(155) + "net5;@");
        e.due("the 161st is not on it", x.text(), 1);
    }

    private void everyByte() {
        e.terms("NAMES (a .. z), NUMBERS (1 or 2 figures), the sign ; (every other byte is no TOKEN).");
        for (int c = 0; c < 128; c++) {
            boolean token = c >= 'a' && c <= 'z' || c >= '0' && c <= '9' || c == ';';
            EveningPoach x = new EveningPoach();
            x.feed(c);
            e.due("byte " + c, x.text(), c == ' ' ? 0 : -10);
            e.due("its fault", x.fault(), c == ' ' ? 0 : token ? 2 : 1);
        }
        refused("net\t0;", 1, 3);
        refused("net0\n;", 1, 4);
        refused("Net0;", 1, 0);
        refused("neT0;", 2, 0);
        refused("net-0;", 1, 3);
    }

    private void tokensAsLongAsMayBe() {
        e.terms("TOKENS, each as long as may be, any number of blanks (32) ahead of, between, behind them "
            + "(one at least between two NAMES, between two NUMBERS; else none is needed): ");
        refused("netdog0;", 2, 0);
        refused("net dog0;", 2, 4);
        refused("ne t0;", 2, 0);
        refused("keeper 001;", 1, 7);
        refused("keeper 00 1;", 2, 11);
        refused("gate 0 30 2 2;", 2, 12);
        refused("gate 0 3 0 2;", 2, 11);
        taken("keeper0 0 1;gate0 30 2;net0;", 3);
    }

    private void blanks() {
        taken("", 0);
        taken(" ", 0);
        taken("   net   0   ;   ", 1);
        taken("net0;" + " ".repeat(150) + "dog1;", 2);
        taken("  keeper  5  5  9  ;gate  5  60  9  ;", 2);
    }

    private void figures() {
        taken("net 5;net 05;net 00;", 3);
        taken("keeper 05 00 09;gate 05 06 07;", 2);
        refused("net 005;", 1, 4);
        refused("net 0000000000000000000000000000001;", 1, 4);
    }

    private void lines() {
        e.terms("text: { line } line: K N ; | keeper N N N ; | gate N N N ; K: net | dog | boy | squire");
        taken("", 0);
        taken(FIVE_TAKERS + THREE_KEEPERS + SIX_GATES, 14);
        taken(SIX_GATES + FIVE_TAKERS + THREE_KEEPERS, 14);
        taken("net0;", 1);
        taken("dog0;", 1);
        taken("boy0;", 1);
        taken("squire0;", 1);
        String[] parts = {"net", "0", ";", "keeper", "0", "0", "1", ";", "gate", "0", "0", "0", ";"};
        StringBuilder all = new StringBuilder();
        for (String part : parts) {
            all.append(part).append(' ');
            if (part.equals(";")) {
                taken(all.toString(), all.toString().split(";").length - 1);
            } else {
                refused(all.toString(), 2, all.length());
            }
        }
    }

    private void whatLinesTell() {
        e.terms("K: a TAKER more of that KIND: his GATE. keeper: a KEEPER more: START, STEP, EAR. "
            + "gate: which, its LIGHT, how much it GROWS.");
        EveningPoach x = Check.told("squire 5;keeper 5 4 9;gate 5 60 8;gate 0 0 0;");
        e.due("kind", x.taker(0, 0), 3);
        e.due("gate", x.taker(0, 1), 5);
        e.due("start", x.keeper(0, 0), 5);
        e.due("step", x.keeper(0, 1), 4);
        e.due("ear", x.keeper(0, 2), 9);
        e.row("light", new int[] {0, 30, 30, 30, 30, 60}, g -> x.gate(g, 0));
        e.row("growth", new int[] {0, 2, 2, 2, 2, 8}, g -> x.gate(g, 1));
    }

    private void noToken() {
        e.terms("FAULTS, the first met as it is read (a TOKEN is read when the one before has been taken): "
            + "1 no TOKEN, a NUMBER that is too long (its first byte).");
        refused("@ net 6;", 1, 0);
        refused("net 6 @", 3, 4);
        refused("rook @", 2, 0);
        refused("net @ 6;", 1, 4);
        refused("net 5@", 1, 5);
        refused("net 5;@", 1, 6);
        refused("net 100;", 1, 4);
        refused("100", 1, 0);
        refused("net 5 100", 1, 6);
        refused("net 5;100", 1, 6);
        refused("gate 0 0 100;", 1, 9);
        refused("keeper 6 100", 3, 7);
    }

    private void canNotStandThere() {
        e.terms("2 a TOKEN that can not stand there (a NAME that begins no line; or the end: the length).");
        refused("rook 0;", 2, 0);
        refused("n 0;", 2, 0);
        refused("nett 0;", 2, 0);
        refused("met 0;", 2, 0);
        refused("nit 0;", 2, 0);
        refused("date 0 0 0;", 2, 0);
        refused("keepe 0 0 1;", 2, 0);
        refused("squires 0;", 2, 0);
        refused("net 0;gates 0 0 0;", 2, 6);
        refused(";", 2, 0);
        refused("0;", 2, 0);
        refused("net;", 2, 3);
        refused("net net;", 2, 4);
        refused("net 0 0;", 2, 6);
        refused("net 0 dog 0;", 2, 6);
        refused("net 0;;", 2, 6);
        refused("keeper 0 0;", 2, 10);
        refused("keeper 0 0 1 1;", 2, 13);
        refused("gate 0 0;", 2, 8);
        refused("gate 0 0 0 0;", 2, 11);
    }

    private void theEnd() {
        refused("net", 2, 3);
        refused("net ", 2, 4);
        refused("net 0", 2, 5);
        refused("net 0;dog   ", 2, 12);
        refused("keeper 0 0 1", 2, 12);
        refused("gate 0 0 0", 2, 10);
        refused("gate 0 0", 2, 8);
    }

    private void outOfBounds() {
        e.terms("3 a NUMBER out of its bounds.");
        taken("net 5;dog 5;boy 5;squire 5;", 4);
        refused("net 6;", 3, 4);
        refused("dog 99;", 3, 4);
        refused("boy 06;", 3, 4);
        refused("squire 10;", 3, 7);
        taken("keeper 5 5 9;keeper 0 0 1;", 2);
        refused("keeper 6 6 10;", 3, 7);
        refused("keeper 5 6 10;", 3, 9);
        refused("keeper 5 5 10;", 3, 11);
        refused("keeper 5 5 0;", 3, 11);
        refused("keeper 5 5 00;", 3, 11);
        taken("gate 5 60 9;gate 0 0 0;", 2);
        refused("gate 6 61 10;", 3, 5);
        refused("gate 5 61 10;", 3, 7);
        refused("gate 5 60 10;", 3, 10);
    }

    private void toldAlready() {
        e.terms("4 a GATE that is told already (it).");
        refused("gate 0 0 0;gate 0 0 0;", 4, 16);
        refused("gate 0 0 0;gate  00 99 99;", 4, 17);
        refused("gate 0 0 0;gate 0", 4, 16);
        refused("gate 0 0 0;gate 6 0 0;", 3, 16);
        refused(SIX_GATES + "gate5", 4, 64);
        refused(SIX_GATES + "gate0", 4, 64);
        EveningPoach x = Check.told("gate 0 1 1;");
        e.due("told by an earlier text", Check.tell(x, "gate 0 2 2;"), 1);
        e.due("its light", x.gate(0, 0), 2);
        refused("gate 0 1 1;gate 0 1 1;", 4, 16);
        e.due("told by a refused text", Check.tell(x, "gate 1 3 3;net 9;"), -25);
        e.due("is not told", Check.tell(x, "gate 1 4 4;"), 1);
    }

    private void tooMany() {
        e.terms("5 the 6th TAKER, the 4th keeper (its NAME).");
        refused(FIVE_TAKERS + "net0;", 5, 25);
        refused(FIVE_TAKERS + "  squire", 5, 27);
        refused(FIVE_TAKERS + "boy 9;", 5, 25);
        refused(FIVE_TAKERS + "nets", 2, 25);
        refused(THREE_KEEPERS + "keeper0 0 1;", 5, 36);
        refused(THREE_KEEPERS + "keeper", 5, 36);
        refused(FIVE_TAKERS + THREE_KEEPERS + " keeper @", 5, 62);
        refused(THREE_KEEPERS + FIVE_TAKERS + "dog", 5, 61);
        EveningPoach x = Check.told(FIVE_TAKERS + THREE_KEEPERS);
        e.due("as many by the next text", Check.tell(x, FIVE_TAKERS + THREE_KEEPERS), 8);
        e.due("takers", x.rule(0), 5);
        e.due("keepers", x.rule(1), 3);
    }

    private static EveningPoach full() {
        EveningPoach x = Check.told("boy 1;net 2;keeper 1 0 5;gate 3 7 8;");
        x.nights(3);
        x.see(1, 1, 1);
        x.keep(0);
        x.keep(1);
        x.sheet(0, 1, 7);
        x.sheet(3, 2, 2);
        x.lay(3, 1, 4);
        return x;
    }

    private void inPlace() {
        e.terms("A text that is taken tells all, in place of what there was (what no line tells is as at first); "
            + "nothing is SEEN; IMAGES are gone; SHEETS stay.");
        String[] texts = {"", "gate 0 1 1;", "keeper 0 0 1;", "dog 5;"};
        for (String text : texts) {
            EveningPoach x = full();
            EveningPoach fresh = new EveningPoach();
            // What would be leaves nothing either.
            x.runs(9, 0);
            e.due("lines of '" + text + "'", Check.tell(x, text), Check.tell(fresh, text));
            e.row("rule behind '" + text + "'", rules(fresh), x::rule);
            e.row("seen, images, tape, cells", new int[] {0, 0, 0, 7}, x::count);
            e.due("growth", x.count(4), fresh.count(4));
            e.due("ears", x.count(5), fresh.count(5));
            e.due("image 0", x.back(0), -2);
            e.due("image 1", x.back(1), -2);
        }
        EveningPoach x = full();
        x.runs(2, 0);
        Check.tell(x, "dog 5;boy 3;");
        e.row("the dog", new int[] {1, 5, 0, 0}, what -> x.taker(0, what));
        e.row("the boy", new int[] {2, 3, 0, 0}, what -> x.taker(1, what));
        e.due("a cell of sheet 3 stays", x.read(3, 2, 0, 1), 1);
        e.due("his gate then", x.taker(0, 1), 4);
    }

    private static int[] rules(EveningPoach x) {
        int[] answers = new int[8];
        for (int what = 0; what < 8; what++) {
            answers[what] = x.rule(what);
        }
        return answers;
    }

    private void newObject() {
        e.promise(1, "No TAKERS, no KEEPERS; SHEETS have nothing.");
        EveningPoach x = new EveningPoach();
        e.due("takers", x.rule(0), 0);
        e.due("keepers", x.rule(1), 0);
        e.row("sheets", new int[] {-11, -11, -11, -11, -1}, k -> x.lay(k, 0, 0));
        e.due("cells of sheet 0", x.count(3), -4);
        e.bad("the first of none", x.taker(0, 0), x.keeper(0, 0));
    }

    private void feed() {
        e.promise(2, "A byte (0 to 127) comes behind THE TAPE: how many it has. BAD; FULL: more than 160.");
        EveningPoach x = new EveningPoach();
        e.bad("feed", x.feed(-1), x.feed(128), x.feed(255), x.feed(256), x.feed(Integer.MIN_VALUE), x.feed(Integer.MAX_VALUE));
        e.due("what is refused is not on it", x.count(2), 0);
        e.due("0", x.feed(0), 1);
        e.due("127", x.feed(127), 2);
        for (int n = 3; n <= 160; n++) {
            e.due("byte " + n, x.feed(' '), n);
        }
        e.due("a 161st", x.feed(' '), -3);
        e.bad("a 161st that is none", x.feed(128), x.feed(-1));
        e.due("160 are on it", x.count(2), 160);
        x.end(159);
        e.due("the 160th anew", x.feed(' '), 160);
        e.due("a 161st", x.feed(' '), -3);
    }

    private void end() {
        e.promise(3, "THE TAPE keeps its first n bytes: how many it had. BAD (n above that, too).");
        EveningPoach x = new EveningPoach();
        e.due("0 of none", x.end(0), 0);
        e.bad("of none", x.end(1), x.end(-1), x.end(Integer.MAX_VALUE), x.end(Integer.MIN_VALUE));
        Check.feed(x, "dog5;net@");
        e.bad("of 9", x.end(10), x.end(-1));
        e.due("all", x.end(9), 9);
        e.due("all but one", x.end(8), 9);
        e.bad("of 8", x.end(9));
        e.due("the first", x.end(5), 8);
        Check.feed(x, "boy1;");
        e.due("what is cut is not read, what comes then is", x.text(), 2);
        e.row("kinds", new int[] {1, 2, -1}, t -> x.taker(t, 0));
        e.due("of an empty one", x.end(0), 0);
    }

    private void text() {
        e.promise(4, "THE TAPE (empty then, by a FAULT, too) tells all: how many lines; "
            + "-10 less the place of its FAULT: that which was told stays.");
        EveningPoach x = new EveningPoach();
        e.due("of an empty tape", x.text(), 0);
        e.due("two lines", Check.tell(x, "net 1;dog 2;"), 2);
        e.due("the tape is empty", x.count(2), 0);
        e.due("a fault at place 0", Check.tell(x, "@"), -10);
        e.due("the tape is empty by a fault, too", x.count(2), 0);
        e.due("a byte behind that is the first", x.feed('n'), 1);
        e.due("a fault at the end", x.text(), -10);
        e.due("told stays", x.rule(0), 2);
        e.due("then an empty one tells all", x.text(), 0);
        e.due("nobody", x.rule(0), 0);
    }

    private void textLeaves() {
        EveningPoach x = full();
        e.due("the fault of the last line", Check.tell(x, "dog 0;keeper 0 0 1;gate 0 0 0;gate 0"), -45);
        e.row("rule behind it", new int[] {2, 1, 3, 1, 193, 18, 1, 0}, x::rule);
        e.row("count behind it", new int[] {1, 2, 0, 7, 18, 5}, x::count);
        e.row("light behind it", new int[] {36, 36, 18, 31, 36, 36}, g -> x.gate(g, 0));
        e.due("image 1 stays", x.back(1), 3);
    }

    private void fault() {
        e.promise(5, "The FAULT of the latest text(); 0.");
        EveningPoach x = new EveningPoach();
        e.due("of none", x.fault(), 0);
        String[] texts = {"@", "net", "net 6;", "gate 0 0 0;gate 0 0 0;", THREE_KEEPERS + "keeper", ""};
        int[] faults = {1, 2, 3, 4, 5, 0};
        for (int i = 0; i < texts.length; i++) {
            Check.tell(x, texts[i]);
            e.due("of '" + texts[i] + "'", x.fault(), faults[i]);
            e.due("asked again", x.fault(), faults[i]);
        }
        Check.tell(x, "@");
        x.feed('n');
        x.end(0);
        x.feed(200);
        e.due("a tape that is not told leaves it", x.fault(), 1);
    }
}
