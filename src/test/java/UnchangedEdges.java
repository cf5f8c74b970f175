/** What is refused changes nothing; what only asks changes nothing. */
final class UnchangedEdges {
    private static final String TEXT = "net 0;dog 0;boy 3;squire 1;keeper 0 1 2;keeper 3 0 4;gate 1 50 7;";

    private final Edges e;

    UnchangedEdges(Edges e) {
        this.e = e;
    }

    void run() {
        e.terms("what is refused changes nothing (but THE TAPE, as told).");
        Twins.Past[] pasts = {EveningPoach::new, UnchangedEdges::inTheMiddle, UnchangedEdges::atTheEnds};
        for (int p = 0; p < pasts.length; p++) {
            wrongNumbers(p, pasts[p]);
            wrongOfImagesAndSheets(p, pasts[p]);
        }
        refusedByState();
        refusedByTheEnds();
        refusedText();
        whatOnlyAsks();
    }

    private static EveningPoach inTheMiddle() {
        EveningPoach x = Check.told(TEXT);
        x.nights(2);
        x.keep(0);
        x.nights(1);
        x.see(1, 2, 38);
        x.see(3, 0, x.glow(0, 3));
        x.sheet(0, 1, 4);
        x.lay(0, 0, 1);
        x.lay(0, 1, 4);
        x.sheet(1, 0, 3);
        x.lay(1, 0, 3);
        x.read(3, 1, 0, 1);
        Check.feed(x, "boy 5;@");
        return x;
    }

    private static EveningPoach atTheEnds() {
        EveningPoach x = TermEdges.inNight(999);
        x.keep(0);
        x.keep(1);
        for (int i = 0; i < 6; i++) {
            x.see(1, 5, 60);
        }
        x.hire(1, 0, 9);
        x.hire(2, 0, 9);
        x.hire(3, 0, 9);
        x.sheet(0, 0, 40);
        x.read(0, 0, 39, 1);
        return x;
    }

    private void refused(String call, Twins.Past past, Twins.Call refused, int due) {
        e.due(call, refused.on(past.made()), due);
        e.due("changed by " + call, Twins.isUnchangedBy(past, refused) ? 0 : 1, 0);
    }

    private void wrongNumbers(int p, Twins.Past past) {
        Twins.Call[] calls = {
            x -> x.feed(-1), x -> x.feed(128), x -> x.end(-1), x -> x.end(161), x -> x.rule(8), x -> x.gate(6, 0),
            x -> x.taker(5, 0), x -> x.keeper(3, 0), x -> x.alter(5, 1, 1), x -> x.alter(0, 3, 1), x -> x.alter(0, 0, 4),
            x -> x.alter(0, 1, 6), x -> x.alter(0, 2, 1000), x -> x.order(3, 0, 1), x -> x.order(0, 3, 1),
            x -> x.order(0, 0, 6), x -> x.order(0, 1, 6), x -> x.order(0, 2, 0), x -> x.order(0, 2, 10),
            x -> x.tend(6, 0, 1), x -> x.tend(0, 2, 1), x -> x.tend(0, 0, 61), x -> x.tend(0, 1, 10), x -> x.tend(0, 0, -1),
            x -> x.free(5), x -> x.free(-1), x -> x.hire(6, 0, 1), x -> x.hire(0, 6, 1), x -> x.hire(0, 0, 10),
            x -> x.dismiss(4), x -> x.dismiss(-1), x -> x.nights(31), x -> x.nights(-1), x -> x.runs(61, 0),
            x -> x.ahead(0, 61, 0), x -> x.glow(0, 61), x -> x.caught(5), x -> x.best(0, 61, 0), x -> x.ripen(0, 61, 0),
            x -> x.swap(61, 0), x -> x.round(0, 61, 0), x -> x.post(10, 1, 0), x -> x.kind(0, 61, 0), x -> x.sharp(0, 0, 61),
            x -> x.luck(11, 0, 1, 0), x -> x.mean(11, 1, 0), x -> x.see(21, 0, 0), x -> x.see(0, 0, 61), x -> x.forget(7),
            x -> x.forget(-1), x -> x.kinds(5), x -> x.gates(5), x -> x.ask(0, 2), x -> x.drift(0, 61, 0)};
        for (int i = 0; i < calls.length; i++) {
            refused("wrong call " + i + " in past " + p, past, calls[i], -1);
        }
    }

    private void wrongOfImagesAndSheets(int p, Twins.Past past) {
        Twins.Call[] calls = {
            x -> x.keep(2), x -> x.keep(-1), x -> x.back(2), x -> x.back(-1), x -> x.sheet(4, 0, 1), x -> x.sheet(0, 3, 1),
            x -> x.sheet(0, 0, 41), x -> x.lay(4, 0, 1), x -> x.read(4, 0, 0, 1), x -> x.read(0, 3, 0, 1),
            x -> x.read(0, 0, 0, 21), x -> x.read(0, 0, 0, -1), x -> x.count(6)};
        for (int i = 0; i < calls.length; i++) {
            refused("wrong call of a sheet " + i + " in past " + p, past, calls[i], -1);
        }
        refused("SIZE in past " + p, past, x -> x.sheet(0, 0, -1), -14);
        refused("INDEX or NULL in past " + p, past, x -> x.lay(0, 40, 1), p == 0 ? -11 : -12);
    }

    private void refusedByState() {
        Twins.Past middle = UnchangedEdges::inTheMiddle;
        refused("free of who is not held", middle, x -> x.free(1), -2);
        refused("back of no image", middle, x -> x.back(1), -2);
        refused("drift of no takers", EveningPoach::new, x -> x.drift(1, 1, 0), -2);
        refused("lay on nothing", middle, x -> x.lay(3, 0, 1), -11);
        refused("lay behind the last cell", middle, x -> x.lay(0, 4, 1), -12);
        refused("a second that is refused", middle, x -> {
            x.lay(0, 2, 4);
            int answer = x.read(0, 1, 0, 2);
            x.lay(0, 2, 0);
            return answer;
        }, -21);
    }

    private void refusedByTheEnds() {
        Twins.Past ends = UnchangedEdges::atTheEnds;
        refused("a night behind the last", ends, x -> x.nights(1), -3);
        refused("a 4th keeper", ends, x -> x.hire(0, 0, 1), -3);
        refused("post of a 4th", ends, x -> x.post(1, 1, 0), -3);
        refused("a 7th seen", ends, x -> x.see(0, 0, 0), -3);
        refused("a sending in night 999", ends, x -> x.read(0, 0, 0, 1), -20);
        refused("a 161st byte", () -> {
            EveningPoach x = new EveningPoach();
            Check.feed(x, " ".repeat(155) + "net5;");
            return x;
        }, x -> x.feed('@'), -3);
    }

    /** A text with a fault empties the tape and tells its fault: all else stays. */
    private void refusedText() {
        Twins.Past emptied = () -> {
            EveningPoach x = inTheMiddle();
            x.text();
            return x;
        };
        String[] texts = {"@", "net", "squire 6;", "gate 0 0 0;gate 0", "net 9;", "dog 1;boy 2;gate 3 0 0;keeper 0 0 1;rook"};
        for (String text : texts) {
            refused("'" + text + "'", emptied, x -> {
                int answer = Check.tell(x, text) < 0 ? -1 : 0;
                // So that the latest fault is as it was.
                Check.tell(x, "@");
                return answer;
            }, -1);
        }
    }

    private void whatOnlyAsks() {
        e.promise(35, "By itself (as it would be; nothing is changed)");
        e.due("drift", changes(x -> x.drift(5, 60, 0) + x.drift(5, 1, 1)), 0);
        e.terms("BY NIGHTS: as it would be from now on.");
        Twins.Call[] calls = {
            x -> x.fault(), x -> x.rule(7), x -> x.gate(0, 3), x -> x.taker(0, 5), x -> x.keeper(0, 3), x -> x.runs(60, 2),
            x -> x.ahead(0, 60, 0), x -> x.glow(5, 60), x -> x.caught(0), x -> x.best(0, 60, 0), x -> x.ripen(0, 60, 1),
            x -> x.swap(60, 0), x -> x.round(1, 60, 1), x -> x.post(1, 60, 1), x -> x.kind(0, 60, 0), x -> x.sharp(0, 3, 60),
            x -> x.luck(5, 0, 8, 0), x -> x.mean(5, 8, 1), x -> x.kinds(0), x -> x.gates(0), x -> x.ask(0, 0), x -> x.ask(0, 1),
            x -> x.torn(), x -> x.count(3), x -> x.nights(0)};
        for (int i = 0; i < calls.length; i++) {
            e.due("changed by question " + i, changes(calls[i]), 0);
        }
    }

    private static int changes(Twins.Call call) {
        return Twins.isUnchangedBy(UnchangedEdges::inTheMiddle, call) ? 0 : 1;
    }
}
