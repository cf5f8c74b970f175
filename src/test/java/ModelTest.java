import java.util.Random;

/** All promises: long runs of calls, each answer beside that of the model. */
public final class ModelTest {
    private static final Check CHECK = new Check();
    private static final int RUNS = 500;
    private static final int CALLS = 512;
    private static final int KINDS_OF_CALL = 42;
    private static final String[] WORDS = {
        "net", "dog", "boy", "squire", "keeper", "gate", "rook", "nets", ";", ";", "0", "1", "05", "9", "60", "61", "123",
        " ", "  ", "@", "A", "\t", "`", "{", "/", ":"};
    private static final int[] EDGES = {
        -1, -2, 6, 7, 8, 9, 10, 11, 20, 21, 30, 31, 40, 41, 60, 61, 127, 128, 160, 161, 999, 1000,
        Integer.MIN_VALUE, Integer.MIN_VALUE + 1, Integer.MAX_VALUE, Integer.MAX_VALUE - 1};

    private static final int[] ASKED = new int[KINDS_OF_CALL];
    private static Random random;
    private static EveningPoach x;
    private static Model m;
    private static String where;

    public static void main(String[] args) {
        for (int run = 0; run < RUNS && !CHECK.isWrong(); run++) {
            random = new Random(run);
            x = new EveningPoach();
            m = new Model();
            // Some runs go by way of many nights, so that the last night is met.
            boolean late = run % 5 == 0;
            for (int call = 0; call < CALLS && !CHECK.isWrong(); call++) {
                where = "run " + run + ", call " + call + ": ";
                if (late && call > 100 && call < 140) {
                    same("nights(30)", x.nights(30), m.nights(30));
                } else {
                    anyCall();
                }
            }
            where = "run " + run + ", at its end: ";
            standsAlike();
        }
        for (int which = 1; which < KINDS_OF_CALL; which++) {
            CHECK.holds("call " + which + " is asked often", ASKED[which] > 500);
        }
        CHECK.finish("ModelTest");
    }

    private static void same(String call, long got, long want) {
        CHECK.due(where + call, got, want);
    }

    /** A number that is mostly as told, now and then at or over an edge. */
    private static int any(int low, int high) {
        int dice = random.nextInt(40);
        if (dice == 0) {
            return EDGES[random.nextInt(EDGES.length)];
        }
        if (dice == 1) {
            return low - 1;
        }
        if (dice == 2) {
            return high + 1;
        }
        if (dice == 3) {
            return high;
        }
        return low + random.nextInt(high - low + 1);
    }

    private static int anyTaker() {
        return any(0, Math.max(0, m.world.takers.size() - 1));
    }

    private static int anyKeeper() {
        return any(0, Math.max(0, m.world.keepers.size() - 1));
    }

    private static String goodText() {
        StringBuilder s = new StringBuilder();
        int takers = random.nextInt(6);
        for (int i = 0; i < takers; i++) {
            s.append(Model.KINDS.get(random.nextInt(4))).append(random.nextInt(6)).append(';');
        }
        int keepers = random.nextInt(4);
        for (int i = 0; i < keepers; i++) {
            s.append("keeper").append(random.nextInt(6)).append(' ').append(random.nextInt(6));
            s.append(' ').append(1 + random.nextInt(random.nextBoolean() ? 3 : 9)).append(';');
        }
        int gates = random.nextInt(4);
        for (int i = 0; i < gates; i++) {
            s.append("gate").append((i * 2 + takers) % 6).append(' ').append(random.nextInt(61));
            s.append("  ").append(random.nextInt(10)).append(" ;");
        }
        return s.toString();
    }

    private static String badText() {
        StringBuilder s = new StringBuilder(random.nextBoolean() ? goodText() : "");
        int words = 1 + random.nextInt(4);
        for (int i = 0; i < words; i++) {
            int place = random.nextInt(3) == 0 ? random.nextInt(s.length() + 1) : s.length();
            s.insert(place, WORDS[random.nextInt(WORDS.length)]);
        }
        return s.toString();
    }

    private static void feedAndTell(String text) {
        for (int i = 0; i < text.length(); i++) {
            same("feed", x.feed(text.charAt(i)), m.feed(text.charAt(i)));
        }
        same("text '" + m.tape + "'", x.text(), m.text());
        same("fault", x.fault(), m.fault);
    }

    private static void anyCall() {
        int which = 1 + random.nextInt(KINDS_OF_CALL - 1);
        ASKED[which]++;
        if (which <= 15) {
            standAndChange(which);
        } else if (which <= 27) {
            nightsAndBest(which);
        } else {
            theOthers(which);
        }
    }

    private static void standAndChange(int which) {
        int a, b, c;
        switch (which) {
            case 1 -> same("feed(" + (a = any(0, 127)) + ")", x.feed(a), m.feed(a));
            case 2 -> same("end(" + (a = any(0, m.tape.length())) + ")", x.end(a), m.end(a));
            case 3 -> feedAndTell(random.nextInt(3) == 0 ? goodText() : badText());
            case 4 -> {
                same("end(0)", x.end(0), m.end(0));
                feedAndTell(goodText());
            }
            case 5 -> same("fault()", x.fault(), m.fault);
            case 6 -> same("rule(" + (a = any(0, 7)) + ")", x.rule(a), m.rule(a));
            case 7 -> same("gate(" + (a = any(0, 5)) + ", " + (b = any(0, 3)) + ")", x.gate(a, b), m.gate(a, b));
            case 8 -> same("taker(" + (a = anyTaker()) + ", " + (b = any(0, 5)) + ")", x.taker(a, b), m.taker(a, b));
            case 9 -> same("keeper(" + (a = anyKeeper()) + ", " + (b = any(0, 3)) + ")", x.keeper(a, b), m.keeper(a, b));
            case 10 -> {
                a = anyTaker();
                b = any(0, 2);
                c = any(0, b == 0 ? 3 : b == 1 ? 5 : 999);
                same("alter(" + a + ", " + b + ", " + c + ")", x.alter(a, b, c), m.alter(a, b, c));
            }
            case 11 -> {
                a = anyKeeper();
                b = any(0, 2);
                c = b == 2 ? any(1, 9) : any(0, 5);
                same("order(" + a + ", " + b + ", " + c + ")", x.order(a, b, c), m.order(a, b, c));
            }
            case 12 -> {
                a = any(0, 5);
                b = any(0, 1);
                c = any(0, b == 0 ? 60 : 9);
                same("tend(" + a + ", " + b + ", " + c + ")", x.tend(a, b, c), m.tend(a, b, c));
            }
            case 13 -> same("free(" + (a = anyTaker()) + ")", x.free(a), m.free(a));
            case 14 -> {
                a = any(0, 5);
                b = any(0, 5);
                c = any(1, 9);
                same("hire(" + a + ", " + b + ", " + c + ")", x.hire(a, b, c), m.hire(a, b, c));
            }
            default -> same("dismiss(" + (a = any(0, m.world.keepers.size())) + ")", x.dismiss(a), m.dismiss(a));
        }
    }

    private static void nightsAndBest(int which) {
        int t = anyTaker();
        int k = anyKeeper();
        int n = any(0, random.nextBoolean() ? 60 : 8);
        int what = any(0, 1);
        String by = "(" + t + " or " + k + ", " + n + ", " + what + ")";
        int few = any(0, 30);
        int runsWhat = any(0, 4);
        int g = any(0, 5);
        int ear = any(1, 9);
        switch (which) {
            case 16 -> same("nights(" + few + ")", x.nights(few), m.nights(few));
            case 17 -> same("runs(" + n + ", " + runsWhat + ")", x.runs(n, runsWhat), m.runs(n, runsWhat));
            case 18 -> same("ahead" + by, x.ahead(t, n, what), m.ahead(t, n, what));
            case 19 -> same("glow(" + g + ", " + n + ")", x.glow(g, n), m.glow(g, n));
            case 20 -> same("caught" + by, x.caught(t), m.caught(t));
            case 21 -> same("best" + by, x.best(t, n, what), m.best(t, n, what));
            case 22 -> same("ripen" + by, x.ripen(t, n, what), m.ripen(t, n, what));
            case 23 -> same("swap" + by, x.swap(n, what), m.swap(n, what));
            case 24 -> same("round" + by, x.round(k, n, what), m.round(k, n, what));
            case 25 -> same("post" + by + ear, x.post(ear, n, what), m.post(ear, n, what));
            case 26 -> same("kind" + by, x.kind(t, n, what), m.kind(t, n, what));
            default -> same("sharp" + by, x.sharp(k, t, n), m.sharp(k, t, n));
        }
    }

    private static void theOthers(int which) {
        int t = anyTaker();
        int what = any(0, 1);
        int n = any(0, 8);
        int v = any(0, 10);
        int k = any(0, 3);
        int lane = any(0, 2);
        int a, b, c;
        switch (which) {
            case 28 -> same("luck(" + v + ", " + t + ", " + n + ")", x.luck(v, t, n, what), m.luck(v, t, n, what));
            case 29 -> same("mean(" + v + ", " + n + ")", x.mean(v, n, what), m.mean(v, n, what));
            case 30 -> see();
            case 31 -> same("forget(" + (a = any(0, m.seen.size())) + ")", x.forget(a), m.forget(a));
            case 32 -> same("kinds(" + t + ")", x.kinds(t), m.kinds(t));
            case 33 -> same("gates(" + t + ")", x.gates(t), m.gates(t));
            case 34 -> same("ask(" + t + ", " + what + ")", x.ask(t, what), m.ask(t, what));
            case 35 -> {
                a = random.nextInt();
                b = any(1, 60);
                same("drift(" + a + ", " + b + ", " + what + ")", x.drift(a, b, what), m.drift(a, b, what));
            }
            case 36 -> same("keep(" + what + ")", x.keep(what), m.keep(what));
            case 37 -> same("back(" + what + ")", x.back(what), m.back(what));
            case 38 -> same("sheet(" + k + ", " + lane + ", " + (a = any(0, 40)) + ")",
                x.sheet(k, lane, a), m.sheet(k, lane, a));
            case 39 -> {
                a = any(0, 39);
                c = random.nextInt(8) == 0 ? random.nextInt() : any(0, 5);
                same("lay(" + k + ", " + a + ", " + c + ")", x.lay(k, a, c), m.lay(k, a, c));
            }
            case 40 -> readCall(k, lane);
            default -> same("count(" + (a = any(0, 5)) + ")", x.count(a), m.count(a));
        }
    }

    /** Mostly what will be so for some gate of some taker, so that gates() is not always none. */
    private static void see() {
        int n = any(0, 20);
        int g = any(0, 5);
        int v = any(0, 60);
        if (random.nextInt(5) != 0 && n >= 0 && n <= 60 && g >= 0 && g <= 5) {
            v = m.glow(g, n);
        }
        same("see(" + n + ", " + g + ", " + v + ")", x.see(n, g, v), m.see(n, g, v));
    }

    private static void readCall(int k, int lane) {
        int as = lane;
        if (random.nextInt(4) != 0 && k >= 0 && k < 4) {
            as = m.sheets[k] instanceof byte[] ? 0 : m.sheets[k] instanceof short[] ? 1 : 2;
        }
        int f = any(0, 39);
        int n = any(0, 20);
        same("read(" + k + ", " + as + ", " + f + ", " + n + ")", x.read(k, as, f, n), m.read(k, as, f, n));
        same("torn()", x.torn(), m.torn);
    }

    private static void standsAlike() {
        for (int what = 0; what < 8; what++) {
            same("rule(" + what + ")", x.rule(what), m.rule(what));
            same("count(" + what + ")", x.count(what), m.count(what));
            for (int i = 0; i < 6; i++) {
                same("gate(" + i + ", " + what + ")", x.gate(i, what), m.gate(i, what));
                same("taker(" + i + ", " + what + ")", x.taker(i, what), m.taker(i, what));
                same("keeper(" + i + ", " + what + ")", x.keeper(i, what), m.keeper(i, what));
            }
        }
    }
}
