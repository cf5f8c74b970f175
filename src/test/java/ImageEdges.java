/** The sheets of section 2, and promises 36 to 42, at their edges: images, sheets, counts. */
final class ImageEdges {
    private static final int[] WIDTHS = {8, 16, 32};

    private final Edges e;

    ImageEdges(Edges e) {
        this.e = e;
    }

    void run() {
        sheets();
        faults();
        keep();
        back();
        sheet();
        lay();
        layTooWide();
        read();
        readToTheLastCell();
        readOfNone();
        readRefused();
        readFirstMet();
        readInTheLastNight();
        torn();
        count();
    }

    private void sheets() {
        e.terms("SHEETS 0 to 3 are rows of BYTES (lane 0), SHORTS (1), INTS (2), all with a sign, "
            + "with 0 to 40 CELLS, or nothing (at first).");
        EveningPoach x = Check.told("net 0;");
        e.row("at first", new int[] {-11, -11, -11, -11, -1}, k -> x.lay(k, 0, 0));
        for (int lane = 0; lane < 3; lane++) {
            int most = (int) ((1L << WIDTHS[lane] - 1) - 1);
            x.sheet(lane, lane, 40);
            e.due("the last cell", x.lay(lane, 39, 5), 1);
            e.due("behind it", x.lay(lane, 40, 5), -12);
            x.lay(lane, 0, -1);
            e.due("a taker of -1 is none", x.read(lane, lane, 0, 1), -20);
            x.lay(lane, 0, most + 1);
            e.due("the least has a sign", x.read(lane, lane, 0, 1), -20);
            x.lay(lane, 0, 0);
            x.lay(lane, 1, -1);
            e.due("a gate of -1 is none", x.read(lane, lane, 0, 1), -20);
        }
        x.sheet(3, 0, 0);
        e.due("no cells", x.lay(3, 0, 0), -12);
    }

    private void faults() {
        e.terms("A FAULT is what the machine finds: 1 NULL (nothing), 2 INDEX, 3 CAST (another lane), 4 SIZE (below 0).");
        EveningPoach x = Check.told("net 0;");
        e.due("SIZE", x.sheet(0, 0, -1), -14);
        e.due("NULL", x.lay(0, 0, 0), -11);
        e.due("NULL, read", x.read(0, 0, 0, 1), 0);
        e.due("NULL", x.torn(), 1);
        e.due("NULL goes ahead of INDEX", x.read(0, 0, -1, 1), 0);
        e.due("NULL", x.torn(), 1);
        x.sheet(0, 0, 2);
        e.due("INDEX", x.lay(0, 2, 0), -12);
        e.due("INDEX, read", x.read(0, 0, 1, 1), 0);
        e.due("INDEX", x.torn(), 2);
        for (int is = 0; is < 3; is++) {
            x.sheet(0, is, 2);
            for (int as = 0; as < 3; as++) {
                e.due("lane " + is + " as " + as, x.read(0, as, 0, 1), is == as ? 1 : 0);
                e.due("CAST", x.torn(), is == as ? 0 : 3);
                x.read(0, as, 99, 1);
                e.due("CAST goes ahead of INDEX", x.torn(), is == as ? 2 : 3);
            }
        }
    }

    private void keep() {
        e.promise(36, "IMAGE k (0, 1) is GATES, TAKERS, KEEPERS (all of them), NIGHT, CATCHES: "
            + "whether there was one (1, 0). BAD.");
        EveningPoach x = new EveningPoach();
        e.bad("keep", x.keep(2), x.keep(-1), x.keep(Integer.MAX_VALUE), x.keep(Integer.MIN_VALUE));
        e.due("no images", x.count(1), 0);
        e.due("of a new object", x.keep(0), 0);
        e.due("the first alone", x.count(1), 1);
        e.due("the other", x.keep(1), 0);
        e.due("again", x.keep(1), 1);
        e.due("a text is told", Check.tell(x, "boy 0;keeper 0 0 1;"), 2);
        e.due("they are gone", x.keep(1), 0);
        x.nights(1);
        e.due("in place of it", x.keep(1), 1);
        x.nights(1);
        e.due("the latest", x.back(1), 1);
        e.due("it is there still", x.keep(1), 1);
    }

    private void back() {
        e.promise(37, "All is as IMAGE k: NIGHT. BAD; STATE: there is none.");
        EveningPoach x = Check.told("boy 0;net 1;keeper 0 1 5;keeper 2 0 9;gate 5 1 1;");
        e.due("none", x.back(0), -2);
        e.due("none", x.back(1), -2);
        e.bad("back", x.back(2), x.back(-1), x.back(Integer.MAX_VALUE), x.back(Integer.MIN_VALUE));
        x.keep(0);
        e.due("the other is none still", x.back(1), -2);
        x.nights(3);
        x.keep(1);
        x.dismiss(0);
        x.alter(0, 0, 0);
        x.alter(1, 1, 2);
        x.tend(5, 1, 9);
        e.due("night 3", x.back(1), 3);
        e.row("as it was", new int[] {2, 2, 3, 1, 166, 18, 1, 0}, x::rule);
        e.due("growth", x.gate(5, 1), 1);
        e.due("night 0", x.back(0), 0);
        e.row("as it was first", new int[] {2, 2, 0, 0, 151, 0, 0, 1}, x::rule);
        e.due("again", x.back(0), 0);
        x.hire(0, 0, 1);
        e.due("night 3 is there still", x.back(1), 3);
        e.row("as it was", new int[] {2, 2, 3, 1, 166, 18, 1, 0}, x::rule);
        Check.tell(x, "@");
        e.due("a fault leaves it", x.back(0), 0);
        Check.tell(x, "");
        e.due("a text does not", x.back(0), -2);
    }

    private void sheet() {
        e.promise(38, "A SHEET is a new row of CELLS 0: 1. BAD: also n above 40; -14 (SIZE): n below 0.");
        EveningPoach x = Check.told("net 1;dog 1;");
        e.due("no cells", x.sheet(0, 0, 0), 1);
        e.due("the most", x.sheet(0, 2, 40), 1);
        e.bad("over 40", x.sheet(0, 2, 41), x.sheet(0, 2, Integer.MAX_VALUE), x.sheet(4, 2, 41));
        e.due("below 0", x.sheet(0, 2, -1), -14);
        e.due("far below 0", x.sheet(3, 0, Integer.MIN_VALUE), -14);
        e.bad("no sheet, no lane", x.sheet(4, 0, -1), x.sheet(-1, 0, 1), x.sheet(0, 3, -1), x.sheet(0, -1, 1), x.sheet(0, 3, 1),
            x.sheet(Integer.MIN_VALUE, 0, 0), x.sheet(0, Integer.MAX_VALUE, 0));
        e.due("40 cells still", x.count(3), 40);
        e.due("nothing still", x.lay(3, 0, 0), -11);
        x.lay(0, 0, 1);
        x.lay(0, 1, 5);
        e.due("a new row", x.sheet(0, 2, 2), 1);
        e.due("of cells 0", x.read(0, 2, 0, 1), 1);
        e.due("the first to gate 0", x.taker(0, 1), 0);
        e.due("not the second to 5", x.taker(1, 1), 1);
        e.due("a shorter row", x.lay(0, 2, 0), -12);
    }

    private void lay() {
        e.promise(39, "CELL i of a SHEET becomes v (its lowest bits): 1. BAD: k; -10 less the FAULT: NULL, INDEX.");
        EveningPoach x = new EveningPoach();
        e.bad("lay", x.lay(4, 0, 0), x.lay(-1, 0, 0), x.lay(Integer.MAX_VALUE, 0, 0), x.lay(Integer.MIN_VALUE, 0, 0),
            x.lay(4, -1, 0));
        e.row("nothing", new int[] {-11, -11, -11, -11}, k -> x.lay(k, 0, 0));
        e.due("nothing, whatever i is", x.lay(0, -1, 0), -11);
        x.sheet(0, 0, 1);
        e.due("the only cell", x.lay(0, 0, Integer.MAX_VALUE), 1);
        e.due("behind", x.lay(0, 1, 0), -12);
        e.due("ahead", x.lay(0, -1, 0), -12);
        e.due("far behind", x.lay(0, Integer.MAX_VALUE, 0), -12);
        e.due("far ahead", x.lay(0, Integer.MIN_VALUE, 0), -12);
        x.sheet(0, 0, 0);
        e.due("no cells", x.lay(0, 0, 0), -12);
        x.sheet(0, 2, 40);
        e.due("the last", x.lay(0, 39, Integer.MIN_VALUE), 1);
        e.due("behind the last", x.lay(0, 40, 0), -12);
    }

    /** A bit more than a lane has is gone, a bit less is not. */
    private void layTooWide() {
        for (int lane = 0; lane < 3; lane++) {
            for (int bit = 0; bit < 32; bit++) {
                EveningPoach x = Check.told("net 3;");
                x.sheet(1, lane, 2);
                x.lay(1, 1, 1 << bit);
                boolean gone = bit >= WIDTHS[lane];
                boolean gate = bit <= 2;
                e.due("bit " + bit + " in lane " + lane, x.read(1, lane, 0, 1), gone || gate ? 1 : -20);
                e.due("his gate", x.taker(0, 1), gone ? 0 : gate ? 1 << bit : 3);
            }
        }
    }

    private static EveningPoach withCells(int... cells) {
        EveningPoach x = Check.told("net 0;boy 1;keeper 4 0 4;");
        x.sheet(1, 1, cells.length);
        for (int i = 0; i < cells.length; i++) {
            x.lay(1, i, cells[i]);
        }
        return x;
    }

    private void read() {
        e.promise(40, "n (0 to 20) times a TAKER, a GATE are read of a SHEET taken as of a lane, two CELLS each from CELL f on, "
            + "one behind another: he goes there from then on, as by alter(), and a NIGHT goes behind each: how many came.");
        EveningPoach x = withCells(1, 3, 1, 4, 0, 5, 0);
        e.bad("read", x.read(4, 1, 0, 1), x.read(-1, 1, 0, 1), x.read(1, 3, 0, 1), x.read(1, -1, 0, 1), x.read(1, 1, 0, 21),
            x.read(1, 1, 0, -1), x.read(1, 1, 0, Integer.MAX_VALUE), x.read(1, 1, 0, Integer.MIN_VALUE));
        e.due("one", x.read(1, 1, 0, 1), 1);
        e.row("behind it", new int[] {2, 1, 1, 0, 183, 9, 0, 0}, x::rule);
        e.due("the boy goes to 3", x.taker(1, 1), 3);
        e.due("two more", x.read(1, 1, 2, 2), 2);
        e.row("behind them", new int[] {2, 1, 3, 1, 195, 21, 2, 0}, x::rule);
        e.due("the boy is caught at 4, and held then", x.taker(1, 3), 6);
        e.due("the net goes to 5", x.taker(0, 1), 5);
        e.due("half a pair ahead: 3 is no taker", x.read(1, 1, 1, 1), -20);
    }

    private void readToTheLastCell() {
        e.promise(40, "What the machine refuses: those that were whole ahead came (its FAULT is asked by torn();");
        EveningPoach x = Check.told("net 1;");
        x.sheet(2, 0, 40);
        e.due("20 of 20", x.read(2, 0, 0, 20), 20);
        e.due("no fault", x.torn(), 0);
        e.due("nights", x.rule(2), 20);
        e.due("19 of 20", x.read(2, 0, 1, 20), 19);
        e.due("INDEX", x.torn(), 2);
        e.due("nights", x.rule(2), 39);
        e.due("the last", x.read(2, 0, 38, 1), 1);
        e.due("no fault", x.torn(), 0);
        e.due("the last and one more", x.read(2, 0, 38, 2), 1);
        e.due("INDEX", x.torn(), 2);
        int[] far = {39, 40, -1, -2, Integer.MAX_VALUE, Integer.MAX_VALUE - 1, Integer.MIN_VALUE};
        for (int f : far) {
            x.read(2, 0, 0, 0);
            e.due("from " + f, x.read(2, 0, f, 20), 0);
            e.due("INDEX", x.torn(), 2);
        }
        e.due("none came", x.rule(2), 41);
        x.sheet(2, 0, 0);
        e.due("no cells", x.read(2, 0, 0, 1), 0);
        e.due("INDEX", x.torn(), 2);
        x.sheet(2, 0, 1);
        e.due("one cell", x.read(2, 0, 0, 1), 0);
        e.due("INDEX", x.torn(), 2);
    }

    private void readOfNone() {
        e.promise(40, "of n 0: 0, no FAULT, whatever the SHEET is).");
        EveningPoach x = TermEdges.inNight(999);
        x.sheet(0, 0, 1);
        int[][] calls = {{1, 0, 0}, {1, 2, -1}, {0, 0, 0}, {0, 0, 40}, {0, 1, 0}, {0, 0, Integer.MIN_VALUE}};
        for (int[] call : calls) {
            x.read(1, 0, 0, 1);
            e.due("NULL, ahead", x.torn(), 1);
            e.due("of sheet " + call[0] + " as " + call[1] + " from " + call[2], x.read(call[0], call[1], call[2], 0), 0);
            e.due("no fault", x.torn(), 0);
        }
        e.due("no night", x.rule(2), 999);
        e.due("no takers", new EveningPoach().read(3, 2, 0, 0), 0);
    }

    private void readRefused() {
        e.promise(40, "BAD: k, lane, n; -20 less i (0 on): the i-th, whole, is refused by alter(), "
            + "or NIGHT is 999: then none came; the first met.");
        int[][] pairs = {{2, 0}, {-1, 0}, {0, 6}, {0, -1}, {32767, 0}, {0, -32768}};
        for (int[] pair : pairs) {
            EveningPoach x = withCells(0, 3, 1, 2, pair[0], pair[1]);
            e.due("the first", x.read(1, 1, 4, 1), -20);
            e.due("the third", x.read(1, 1, 0, 3), -22);
            e.row("none came", new int[] {2, 1, 0, 0, 180, 0, 0, 0}, x::rule);
            e.row("nobody went", new int[] {0, 1}, t -> x.taker(t, 1));
            e.due("two alone", x.read(1, 1, 0, 2), 2);
        }
        EveningPoach y = Check.told("net 0;");
        y.sheet(0, 2, 40);
        y.lay(0, 38, 1);
        e.due("the last of 20", y.read(0, 2, 0, 20), -39);
        e.due("19 of them", y.read(0, 2, 0, 19), 19);
        y.lay(0, 0, 1);
        e.due("the first of 20", y.read(0, 2, 0, 20), -20);
        EveningPoach none = new EveningPoach();
        none.sheet(0, 0, 2);
        e.due("no takers", none.read(0, 0, 0, 1), -20);
    }

    private void readFirstMet() {
        EveningPoach x = withCells(0, 3, 5, 5, 5);
        e.due("refused ahead of INDEX", x.read(1, 1, 0, 20), -21);
        e.due("half of one that would be refused", x.read(1, 1, 4, 1), 0);
        e.due("INDEX", x.torn(), 2);
        e.due("another lane ahead of what would be refused", x.read(1, 0, 2, 1), 0);
        e.due("CAST", x.torn(), 3);
        e.bad("not as told ahead of all", x.read(1, 1, 2, 21), x.read(1, 3, 2, 1), x.read(4, 1, 2, 1), x.read(0, 3, 0, 0),
            x.read(4, 0, 0, 0), x.read(0, 0, 0, -1));
        EveningPoach y = withCells(0, 3, 1, 3, 0);
        e.due("two, then INDEX", y.read(1, 1, 0, 3), 2);
        e.due("INDEX", y.torn(), 2);
        e.due("two came", y.rule(2), 2);
    }

    private void readInTheLastNight() {
        EveningPoach x = TermEdges.inNight(979);
        x.sheet(0, 0, 40);
        x.sheet(1, 0, 3);
        e.due("20 to night 999", x.read(0, 0, 0, 20), 20);
        e.due("night", x.rule(2), 999);
        e.due("no more", x.read(0, 0, 0, 1), -20);
        e.due("half of one", x.read(1, 0, 2, 1), 0);
        e.due("INDEX", x.torn(), 2);
        EveningPoach y = TermEdges.inNight(980);
        y.sheet(0, 0, 40);
        int bag = y.taker(0, 2);
        e.due("the last finds night 999", y.read(0, 0, 0, 20), -39);
        e.due("none came", y.rule(2), 980);
        e.due("nothing is taken", y.taker(0, 2), bag);
        e.due("19 to night 999", y.read(0, 0, 0, 19), 19);
        e.due("night", y.rule(2), 999);
    }

    private void torn() {
        e.promise(41, "The FAULT of the latest read() that answered 0 or more; 0 (one that is refused leaves it).");
        EveningPoach x = withCells(0, 3, 5, 5, 5);
        e.due("of none", x.torn(), 0);
        x.read(0, 1, 0, 1);
        e.due("NULL", x.torn(), 1);
        x.read(1, 1, 2, 1);
        e.due("refused by alter()", x.torn(), 1);
        x.read(1, 0, 0, 1);
        e.due("CAST", x.torn(), 3);
        x.read(1, 1, 0, 21);
        x.read(4, 1, 0, 0);
        x.read(1, 3, 0, 0);
        e.due("BAD", x.torn(), 3);
        x.read(1, 1, 4, 1);
        e.due("INDEX", x.torn(), 2);
        x.lay(0, 0, 0);
        x.sheet(0, 0, -1);
        Check.tell(x, "boy 0;");
        e.due("by read() alone", x.torn(), 2);
        x.read(1, 1, 0, 1);
        e.due("one came", x.torn(), 0);
    }

    private void count() {
        e.promise(42, "How many: 0 SEEN, 1 IMAGES, 2 bytes on THE TAPE, 3 CELLS of SHEET 0 (NONE: nothing), "
            + "4 how much all GATES GROW, 5 EARS of all KEEPERS. BAD.");
        EveningPoach x = new EveningPoach();
        e.row("at first", new int[] {0, 0, 0, -4, 12, 0, -1}, x::count);
        e.bad("count", x.count(-1), x.count(7), x.count(Integer.MAX_VALUE), x.count(Integer.MIN_VALUE));
        Check.tell(x, "keeper0 0 9;keeper0 0 9;keeper0 0 9;gate0 0 9;gate1 0 9;gate2 0 9;gate3 0 9;gate4 0 9;gate5 0 9;");
        for (int i = 0; i < 7; i++) {
            x.see(0, 0, 0);
        }
        x.keep(1);
        e.due("the second image alone", x.count(1), 1);
        x.keep(0);
        Check.feed(x, " ".repeat(161));
        x.sheet(0, 0, 40);
        e.row("at most", new int[] {6, 2, 160, 40, 54, 27}, x::count);
        x.sheet(0, 0, 0);
        e.due("no cells are not nothing", x.count(3), 0);
        x.dismiss(0);
        e.due("no ears", x.count(5), 0);
        for (int g = 0; g < 6; g++) {
            x.tend(g, 1, 0);
        }
        e.due("nothing grows", x.count(4), 0);
    }
}
