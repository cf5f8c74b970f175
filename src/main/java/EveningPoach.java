/** Poachers take the evenings of an estate: gates, takers, keepers, and their nights. */
public final class EveningPoach {
    public static final int BAD = -1, STATE = -2, FULL = -3, NONE = -4;

    private static final int FARTHEST = 60;
    private static final int LONGEST_CALL = 30;
    private static final int LONGEST_READ = 20;
    private static final int LONGEST_WAIT = 20;
    private static final int LONGEST_HAZE = 8;
    private static final int ODDS = 10;
    // More than any two longs need.
    private static final int EUCLID_STEPS = 100;
    private static final int IMAGES = 2;
    private static final int SHEETS = 4;

    private final Estate now = new Estate();
    private final Trial trial = new Trial();
    private final TapeReader reader = new TapeReader();
    private final Tape tape = reader.tape;
    private final Sightings seen = new Sightings();
    private final Outlook outlook = new Outlook();
    private final Estate[] images = new Estate[IMAGES];
    private final boolean[] imageKept = new boolean[IMAGES];
    private final Sheet[] sheets = new Sheet[SHEETS];
    private int textFault;
    private int readFault;

    public EveningPoach() {
        for (int k = 0; k < IMAGES; k++) {
            images[k] = new Estate();
        }
        for (int k = 0; k < SHEETS; k++) {
            sheets[k] = new Sheet();
        }
    }

    // ---- the text, what there is

    public int feed(int c) {
        if (isOutside(c, 0, 127)) {
            return BAD;
        }
        return tape.append(c) ? tape.length : FULL;
    }

    public int end(int n) {
        if (isOutside(n, 0, tape.length)) {
            return BAD;
        }
        int had = tape.length;
        tape.length = n;
        return had;
    }

    public int text() {
        // The trial's estate is the draft, so that a text with a fault leaves what was told.
        int lines = reader.readLines(trial.estate);
        tape.length = 0;
        textFault = reader.fault;
        if (reader.fault != 0) {
            return -10 - reader.faultPlace;
        }
        now.copyFrom(trial.estate);
        seen.count = 0;
        for (int k = 0; k < IMAGES; k++) {
            imageKept[k] = false;
        }
        return lines;
    }

    public int fault() {
        return textFault;
    }

    public int rule(int what) {
        switch (what) {
            case 0: return now.takers;
            case 1: return now.keepers;
            case 2: return now.night;
            case 3: return now.catches;
            case 4: return now.lightOfAll();
            case 5: return now.bagsOfAll();
            case 6: return now.heldBits();
            case 7: return now.nextCaughtBits();
            default: return BAD;
        }
    }

    public int gate(int g, int what) {
        if (isNoGate(g)) {
            return BAD;
        }
        switch (what) {
            case 0: return now.light[g];
            case 1: return now.growth[g];
            case 2: return now.takerBitsAt(g);
            case 3: return now.keeperBitsAt(g);
            default: return BAD;
        }
    }

    public int taker(int t, int what) {
        if (isNoTaker(t)) {
            return BAD;
        }
        switch (what) {
            case 0: return now.kindOf[t];
            case 1: return now.gateOf[t];
            case 2: return now.bag[t];
            case 3: return now.held[t];
            case 4: return now.takes(t);
            case 5: return now.noise(t);
            default: return BAD;
        }
    }

    public int keeper(int k, int what) {
        if (isNoKeeper(k)) {
            return BAD;
        }
        switch (what) {
            case 0: return now.start[k];
            case 1: return now.step[k];
            case 2: return now.ear[k];
            case 3: return now.placeOf(k);
            default: return BAD;
        }
    }

    // ---- what is changed

    public int alter(int t, int what, int v) {
        if (isNoTaker(t)) {
            return BAD;
        }
        switch (what) {
            case 0: return replace(now.kindOf, t, v, 0, Estate.KINDS - 1);
            case 1: return replace(now.gateOf, t, v, 0, Estate.GATES - 1);
            case 2: return replace(now.bag, t, v, 0, Estate.MOST);
            default: return BAD;
        }
    }

    public int order(int k, int what, int v) {
        if (isNoKeeper(k)) {
            return BAD;
        }
        switch (what) {
            case 0: return replace(now.start, k, v, 0, Estate.GATES - 1);
            case 1: return replace(now.step, k, v, 0, Estate.MOST_STEP);
            case 2: return replace(now.ear, k, v, 1, Estate.MOST_EAR);
            default: return BAD;
        }
    }

    public int tend(int g, int what, int v) {
        if (isNoGate(g)) {
            return BAD;
        }
        switch (what) {
            case 0: return replace(now.light, g, v, 0, Estate.MOST_LIGHT);
            case 1: return replace(now.growth, g, v, 0, Estate.MOST_GROWTH);
            default: return BAD;
        }
    }

    public int free(int t) {
        if (isNoTaker(t)) {
            return BAD;
        }
        if (now.held[t] == 0) {
            return STATE;
        }
        return replace(now.held, t, 0, 0, 0);
    }

    public int hire(int start, int step, int ear) {
        if (isNoGate(start) || isOutside(step, 0, Estate.MOST_STEP) || isOutside(ear, 1, Estate.MOST_EAR)) {
            return BAD;
        }
        return now.addKeeper(start, step, ear) ? now.keepers : FULL;
    }

    public int dismiss(int n) {
        if (isOutside(n, 0, now.keepers)) {
            return BAD;
        }
        int were = now.keepers;
        now.keepers = n;
        return were;
    }

    // ---- nights

    public int nights(int n) {
        if (isOutside(n, 0, LONGEST_CALL)) {
            return BAD;
        }
        if (now.night + n > Estate.LAST_NIGHT) {
            return FULL;
        }
        int taken = 0;
        for (int i = 0; i < n; i++) {
            taken += now.passNight(false);
        }
        return taken;
    }

    public int runs(int n, int what) {
        if (isOutside(n, 0, FARTHEST) || isOutside(what, 0, 4)) {
            return BAD;
        }
        trial.begin(now);
        trial.pass(n);
        switch (what) {
            case 0: return trial.taken;
            case 1: return trial.caughtBits;
            case 2: return trial.caughtTimes;
            case 3: return trial.estate.lightOfAll();
            default: return trial.firstCaught == 0 ? NONE : trial.firstCaught;
        }
    }

    public int ahead(int t, int n, int what) {
        if (isNoTaker(t) || isNoQuestion(n, what)) {
            return BAD;
        }
        trial.begin(now);
        trial.pass(n);
        return what == 0 ? trial.estate.bag[t] : trial.estate.held[t];
    }

    public int glow(int g, int n) {
        if (isNoGate(g) || isOutside(n, 0, FARTHEST)) {
            return BAD;
        }
        trial.begin(now);
        trial.pass(n);
        return trial.estate.light[g];
    }

    public int caught(int t) {
        if (isNoTaker(t)) {
            return BAD;
        }
        trial.begin(now);
        for (int n = 1; n <= FARTHEST; n++) {
            trial.passOne(false);
            if (trial.wasCaught(t)) {
                return n;
            }
        }
        return NONE;
    }

    // ---- what is best

    public int best(int t, int n, int what) {
        if (isNoTaker(t) || isNoQuestion(n, what)) {
            return BAD;
        }
        return fullestBag(t, trial.estate.gateOf, Estate.GATES - 1, n, what);
    }

    public int ripen(int t, int n, int what) {
        if (isNoTaker(t) || isNoQuestion(n, what)) {
            return BAD;
        }
        // To stay at home is to be held: he takes nothing and nobody hears him.
        return fullestBag(t, trial.estate.held, LONGEST_WAIT, n, what);
    }

    public int swap(int n, int what) {
        if (isNoQuestion(n, what)) {
            return BAD;
        }
        trial.begin(now);
        trial.pass(n);
        int choice = NONE;
        int most = trial.taken;
        for (int a = 0; a < now.takers; a++) {
            for (int b = a + 1; b < now.takers; b++) {
                trial.begin(now);
                trial.estate.gateOf[a] = now.gateOf[b];
                trial.estate.gateOf[b] = now.gateOf[a];
                trial.pass(n);
                if (trial.taken > most) {
                    most = trial.taken;
                    choice = 10 * a + b;
                }
            }
        }
        return what == 0 || choice == NONE ? choice : most;
    }

    public int round(int k, int n, int what) {
        if (isNoKeeper(k) || isNoQuestion(n, what)) {
            return BAD;
        }
        int choice = 0;
        int most = -1;
        for (int start = 0; start < Estate.GATES; start++) {
            for (int step = 0; step <= Estate.MOST_STEP; step++) {
                trial.begin(now);
                trial.estate.start[k] = start;
                trial.estate.step[k] = step;
                trial.pass(n);
                if (trial.caughtTimes > most) {
                    most = trial.caughtTimes;
                    choice = 10 * start + step;
                }
            }
        }
        return what == 0 ? choice : most;
    }

    public int post(int ear, int n, int what) {
        if (isOutside(ear, 1, Estate.MOST_EAR) || isNoQuestion(n, what)) {
            return BAD;
        }
        if (now.keepers >= Estate.MOST_KEEPERS) {
            return FULL;
        }
        int choice = NONE;
        int least = 0;
        for (int start = 0; start < Estate.GATES; start++) {
            trial.begin(now);
            trial.estate.addKeeper(start, 0, ear);
            trial.pass(n);
            if (choice == NONE || trial.taken < least) {
                least = trial.taken;
                choice = start;
            }
        }
        return what == 0 ? choice : least;
    }

    public int kind(int t, int n, int what) {
        if (isNoTaker(t) || isNoQuestion(n, what)) {
            return BAD;
        }
        return fullestBag(t, trial.estate.kindOf, Estate.KINDS - 1, n, what);
    }

    public int sharp(int k, int t, int n) {
        if (isNoKeeper(k) || isNoTaker(t) || isOutside(n, 0, FARTHEST)) {
            return BAD;
        }
        for (int ear = Estate.MOST_EAR; ear >= 1; ear--) {
            trial.begin(now);
            trial.estate.ear[k] = ear;
            trial.pass(n);
            if (trial.wasCaught(t)) {
                return ear;
            }
        }
        return NONE;
    }

    // ---- hazes

    public long luck(int v, int t, int n, int what) {
        if (isNoTaker(t) || isNoHaze(v, n, what)) {
            return BAD;
        }
        long numerator = 1;
        long denominator = 1;
        trial.begin(now);
        for (int i = 0; i < n; i++) {
            // He stays free only if each night in which he would be heard is hazy.
            if (trial.estate.wouldBeCaught(t)) {
                numerator *= v;
                denominator *= ODDS;
            }
            trial.passOne(true);
        }
        return partOfFraction(numerator, denominator, what);
    }

    public long mean(int v, int n, int what) {
        if (isNoHaze(v, n, what)) {
            return BAD;
        }
        long denominator = 1;
        for (int i = 0; i < n; i++) {
            denominator *= ODDS;
        }
        long numerator = 0;
        for (int hazes = 0; hazes < 1 << n; hazes++) {
            long weight = weightOf(hazes, v, n);
            if (weight > 0) {
                numerator += weight * takenInHazes(hazes, n);
            }
        }
        return partOfFraction(numerator, denominator, what);
    }

    // ---- what was gone

    public int see(int n, int g, int v) {
        if (isOutside(n, 0, Sightings.FARTHEST) || isNoGate(g) || isOutside(v, 0, Estate.MOST_LIGHT)) {
            return BAD;
        }
        return seen.add(n, g, v) ? seen.count : FULL;
    }

    public int forget(int n) {
        if (isOutside(n, 0, seen.count)) {
            return BAD;
        }
        int were = seen.count;
        seen.count = n;
        return were;
    }

    public int kinds(int t) {
        return isNoTaker(t) ? BAD : fittingBits(t, trial.estate.kindOf, Estate.KINDS - 1);
    }

    public int gates(int t) {
        return isNoTaker(t) ? BAD : fittingBits(t, trial.estate.gateOf, Estate.GATES - 1);
    }

    public int ask(int t, int what) {
        if (isNoTaker(t) || isOutside(what, 0, 1)) {
            return BAD;
        }
        outlook.clear();
        int candidates = fittingBits(t, trial.estate.gateOf, Estate.GATES - 1);
        for (int g = 0; g < Estate.GATES; g++) {
            if ((candidates >> g & 1) == 1) {
                trial.begin(now);
                trial.estate.gateOf[t] = g;
                outlook.add(trial);
            }
        }
        int choice = NONE;
        int fewest = outlook.count;
        for (int n = 0; n <= Sightings.FARTHEST; n++) {
            for (int g = 0; g < Estate.GATES; g++) {
                int left = outlook.leftAtWorst(n, g);
                if (left < fewest) {
                    fewest = left;
                    choice = 10 * n + g;
                }
            }
        }
        return what == 0 || choice == NONE ? choice : fewest;
    }

    // ---- by a seed

    public int drift(int seed, int n, int what) {
        if (isOutside(n, 1, FARTHEST) || isOutside(what, 0, 1)) {
            return BAD;
        }
        if (now.takers <= 0) {
            return STATE;
        }
        trial.begin(now);
        int state = seed;
        for (int i = 0; i < n; i++) {
            state = state * 1103515245 + 12345;
            int got = state >>> 16 & 0x7fff;
            trial.estate.gateOf[got % now.takers] = got / 8 % Estate.GATES;
            trial.passOne(false);
        }
        return what == 0 ? trial.taken : trial.caughtTimes;
    }

    // ---- images, sheets

    public int keep(int k) {
        if (isOutside(k, 0, IMAGES - 1)) {
            return BAD;
        }
        int was = imageKept[k] ? 1 : 0;
        images[k].copyFrom(now);
        imageKept[k] = true;
        return was;
    }

    public int back(int k) {
        if (isOutside(k, 0, IMAGES - 1)) {
            return BAD;
        }
        if (!imageKept[k]) {
            return STATE;
        }
        now.copyFrom(images[k]);
        return now.night;
    }

    public int sheet(int k, int lane, int n) {
        if (isNoSheet(k) || isOutside(lane, 0, Sheet.LANES - 1) || n > Sheet.MOST_CELLS) {
            return BAD;
        }
        if (n < 0) {
            return -10 - Sheet.FAULT_SIZE;
        }
        sheets[k].renew(lane, n);
        return 1;
    }

    public int lay(int k, int i, int v) {
        if (isNoSheet(k)) {
            return BAD;
        }
        if (sheets[k].isNothing()) {
            return -10 - Sheet.FAULT_NULL;
        }
        return sheets[k].put(i, v) ? 1 : -10 - Sheet.FAULT_INDEX;
    }

    public int read(int k, int lane, int f, int n) {
        if (isNoSheet(k) || isOutside(lane, 0, Sheet.LANES - 1) || isOutside(n, 0, LONGEST_READ)) {
            return BAD;
        }
        Sheet sheet = sheets[k];
        int found = n == 0 ? 0 : sheet.faultAs(lane);
        int came = 0;
        // On the trial first: a refused sending leaves nothing of those ahead of it.
        trial.begin(now);
        for (int i = 0; i < n && found == 0; i++) {
            int at = f + 2 * i;
            if (sheet.lacks(at) || sheet.lacks(at + 1)) {
                found = Sheet.FAULT_INDEX;
            } else if (sendTaker(sheet.cells[at], sheet.cells[at + 1])) {
                came++;
            } else {
                return -20 - i;
            }
        }
        now.copyFrom(trial.estate);
        readFault = found;
        return came;
    }

    public int torn() {
        return readFault;
    }

    public int count(int what) {
        switch (what) {
            case 0: return seen.count;
            case 1: return (imageKept[0] ? 1 : 0) + (imageKept[1] ? 1 : 0);
            case 2: return tape.length;
            case 3: return sheets[0].isNothing() ? NONE : sheets[0].size;
            case 4: return now.growthOfAll();
            case 5: return now.earsOfAll();
            default: return BAD;
        }
    }

    // ---- what the calls share

    private static boolean isOutside(int v, int low, int high) {
        return v < low || v > high;
    }

    private static boolean isNoGate(int g) {
        return isOutside(g, 0, Estate.GATES - 1);
    }

    private boolean isNoTaker(int t) {
        return isOutside(t, 0, now.takers - 1);
    }

    private boolean isNoKeeper(int k) {
        return isOutside(k, 0, now.keepers - 1);
    }

    private static boolean isNoSheet(int k) {
        return isOutside(k, 0, SHEETS - 1);
    }

    private static boolean isNoQuestion(int n, int what) {
        return isOutside(n, 0, FARTHEST) || isOutside(what, 0, 1);
    }

    private static boolean isNoHaze(int v, int n, int what) {
        return isOutside(v, 0, ODDS) || isOutside(n, 0, LONGEST_HAZE) || isOutside(what, 0, 1);
    }

    private static int replace(int[] row, int i, int v, int low, int high) {
        if (isOutside(v, low, high) || isOutside(i, 0, row.length - 1)) {
            return BAD;
        }
        int was = row[i];
        row[i] = v;
        return was;
    }

    /** Tries 0 to last for a taker in a row of the trial's estate: the first by which his bag is most, or how much. */
    private int fullestBag(int t, int[] trialRow, int last, int n, int what) {
        int choice = 0;
        int most = -1;
        for (int v = 0; v <= last; v++) {
            trial.begin(now);
            trialRow[t] = v;
            trial.pass(n);
            if (trial.estate.bag[t] > most) {
                most = trial.estate.bag[t];
                choice = v;
            }
        }
        return what == 0 ? choice : most;
    }

    /** Tries 0 to last for a taker in a row of the trial's estate: bits of those by which all is as seen. */
    private int fittingBits(int t, int[] trialRow, int last) {
        int bits = 0;
        for (int v = 0; v <= last; v++) {
            trial.begin(now);
            trialRow[t] = v;
            if (seen.fit(trial)) {
                bits |= 1 << v;
            }
        }
        return bits;
    }

    private boolean sendTaker(int t, int g) {
        if (isNoTaker(t) || isNoGate(g) || trial.estate.night >= Estate.LAST_NIGHT) {
            return false;
        }
        trial.estate.gateOf[t] = g;
        trial.passOne(false);
        return true;
    }

    private int takenInHazes(int hazes, int n) {
        trial.begin(now);
        for (int i = 0; i < n; i++) {
            trial.passOne((hazes >> i & 1) == 1);
        }
        return trial.taken;
    }

    private static long weightOf(int hazes, int v, int n) {
        long weight = 1;
        for (int i = 0; i < n; i++) {
            weight *= (hazes >> i & 1) == 1 ? v : ODDS - v;
        }
        return weight;
    }

    private static long partOfFraction(long numerator, long denominator, int what) {
        long divisor = commonDivisor(numerator, denominator);
        return what == 0 ? numerator / divisor : denominator / divisor;
    }

    private static long commonDivisor(long a, long b) {
        long greater = a;
        long lesser = b;
        for (int i = 0; i < EUCLID_STEPS && lesser != 0; i++) {
            long rest = greater % lesser;
            greater = lesser;
            lesser = rest;
        }
        return greater > 0 ? greater : 1;
    }

    /** Gates, takers, keepers, night and catches: all that an image holds. */
    private static final class Estate {
        static final int GATES = 6, KINDS = 4, MOST_TAKERS = 5, MOST_KEEPERS = 3;
        static final int MOST_LIGHT = 60, MOST_GROWTH = 9, MOST_STEP = 5, MOST_EAR = 9;
        static final int MOST = 999, LAST_NIGHT = 999;
        private static final int FIRST_LIGHT = 30, FIRST_GROWTH = 2, WEEK = 7;
        private static final int[] TAKES_BY_KIND = {6, 6, 3, 12};
        private static final int[] NOISE_BY_KIND = {3, 1, 5, 5};

        final int[] light = new int[GATES];
        final int[] growth = new int[GATES];
        final int[] kindOf = new int[MOST_TAKERS];
        final int[] gateOf = new int[MOST_TAKERS];
        final int[] bag = new int[MOST_TAKERS];
        final int[] held = new int[MOST_TAKERS];
        final int[] start = new int[MOST_KEEPERS];
        final int[] step = new int[MOST_KEEPERS];
        final int[] ear = new int[MOST_KEEPERS];
        int takers;
        int keepers;
        int night;
        int catches;
        int latestCaughtBits;

        Estate() {
            clear();
        }

        void clear() {
            for (int g = 0; g < GATES; g++) {
                light[g] = FIRST_LIGHT;
                growth[g] = FIRST_GROWTH;
            }
            takers = 0;
            keepers = 0;
            night = 0;
            catches = 0;
        }

        void copyFrom(Estate other) {
            System.arraycopy(other.light, 0, light, 0, GATES);
            System.arraycopy(other.growth, 0, growth, 0, GATES);
            System.arraycopy(other.kindOf, 0, kindOf, 0, MOST_TAKERS);
            System.arraycopy(other.gateOf, 0, gateOf, 0, MOST_TAKERS);
            System.arraycopy(other.bag, 0, bag, 0, MOST_TAKERS);
            System.arraycopy(other.held, 0, held, 0, MOST_TAKERS);
            System.arraycopy(other.start, 0, start, 0, MOST_KEEPERS);
            System.arraycopy(other.step, 0, step, 0, MOST_KEEPERS);
            System.arraycopy(other.ear, 0, ear, 0, MOST_KEEPERS);
            takers = other.takers;
            keepers = other.keepers;
            night = other.night;
            catches = other.catches;
        }

        boolean addTaker(int kind, int gate) {
            if (takers >= MOST_TAKERS) {
                return false;
            }
            kindOf[takers] = kind;
            gateOf[takers] = gate;
            bag[takers] = 0;
            held[takers] = 0;
            takers++;
            return true;
        }

        boolean addKeeper(int startGate, int stepLength, int earSharp) {
            if (keepers >= MOST_KEEPERS) {
                return false;
            }
            start[keepers] = startGate;
            step[keepers] = stepLength;
            ear[keepers] = earSharp;
            keepers++;
            return true;
        }

        int takes(int t) {
            return TAKES_BY_KIND[kindOf[t]];
        }

        int noise(int t) {
            return NOISE_BY_KIND[kindOf[t]];
        }

        int placeOf(int k) {
            return (start[k] + night * step[k]) % GATES;
        }

        boolean wouldBeCaught(int t) {
            if (held[t] > 0) {
                return false;
            }
            for (int k = 0; k < keepers; k++) {
                if (placeOf(k) == gateOf[t] && noise(t) >= ear[k]) {
                    return true;
                }
            }
            return false;
        }

        int passNight(boolean hazy) {
            int taken = 0;
            latestCaughtBits = 0;
            for (int t = 0; t < takers; t++) {
                if (held[t] > 0) {
                    held[t]--;
                } else if (!hazy && wouldBeCaught(t)) {
                    seize(t);
                } else {
                    taken += fillBag(t);
                }
            }
            for (int g = 0; g < GATES; g++) {
                light[g] = Math.min(MOST_LIGHT, light[g] + growth[g]);
            }
            night++;
            return taken;
        }

        private void seize(int t) {
            held[t] = WEEK;
            catches = Math.min(MOST, catches + 1);
            latestCaughtBits |= 1 << t;
        }

        private int fillBag(int t) {
            int g = gateOf[t];
            int much = Math.min(takes(t), light[g]);
            light[g] -= much;
            bag[t] = Math.min(MOST, bag[t] + much);
            return much;
        }

        int lightOfAll() {
            return sum(light, GATES);
        }

        int growthOfAll() {
            return sum(growth, GATES);
        }

        int bagsOfAll() {
            return sum(bag, takers);
        }

        int earsOfAll() {
            return sum(ear, keepers);
        }

        private static int sum(int[] row, int length) {
            int all = 0;
            for (int i = 0; i < length && i < row.length; i++) {
                all += row[i];
            }
            return all;
        }

        int heldBits() {
            int bits = 0;
            for (int t = 0; t < takers; t++) {
                bits |= held[t] > 0 ? 1 << t : 0;
            }
            return bits;
        }

        int nextCaughtBits() {
            int bits = 0;
            for (int t = 0; t < takers; t++) {
                bits |= wouldBeCaught(t) ? 1 << t : 0;
            }
            return bits;
        }

        int takerBitsAt(int g) {
            int bits = 0;
            for (int t = 0; t < takers; t++) {
                bits |= gateOf[t] == g ? 1 << t : 0;
            }
            return bits;
        }

        int keeperBitsAt(int g) {
            int bits = 0;
            for (int k = 0; k < keepers; k++) {
                bits |= placeOf(k) == g ? 1 << k : 0;
            }
            return bits;
        }
    }

    /** An estate's nights as they would be, with what came of them. */
    private static final class Trial {
        final Estate estate = new Estate();
        int gone;
        int taken;
        int caughtTimes;
        int caughtBits;
        int firstCaught;

        void begin(Estate from) {
            estate.copyFrom(from);
            gone = 0;
            taken = 0;
            // Not told by catches: those stay at 999.
            caughtTimes = 0;
            caughtBits = 0;
            firstCaught = 0;
        }

        void pass(int n) {
            for (int i = 0; i < n; i++) {
                passOne(false);
            }
        }

        void passOne(boolean hazy) {
            taken += estate.passNight(hazy);
            gone++;
            int bits = estate.latestCaughtBits;
            caughtTimes += Integer.bitCount(bits);
            caughtBits |= bits;
            if (bits != 0 && firstCaught == 0) {
                firstCaught = gone;
            }
        }

        boolean wasCaught(int t) {
            return (caughtBits >> t & 1) == 1;
        }
    }

    private static final class Tape {
        static final int ROOM = 160;
        final byte[] bytes = new byte[ROOM];
        int length;

        boolean append(int c) {
            if (length >= ROOM) {
                return false;
            }
            bytes[length] = (byte) c;
            length++;
            return true;
        }

        boolean isBetween(int place, int low, int high) {
            return place >= 0 && place < length && bytes[place] >= low && bytes[place] <= high;
        }
    }

    /** Reads the tape's tokens and lines, up to the first fault. */
    private static final class TapeReader {
        private static final int AT_END = 0, NAME = 1, NUMBER = 2, SEMICOLON = 3;
        private static final int MOST_FIGURES = 2;
        private static final int NO_TOKEN = 1, MISPLACED = 2, OUT_OF_BOUNDS = 3, GATE_TWICE = 4, TOO_MANY = 5;

        final Tape tape = new Tape();
        private int sort;
        private int first;
        private int behind;
        // The latest number: a semicolon leaves it, for the line that it ends.
        private int number;
        private int gatesTold;
        int fault;
        int faultPlace;

        int readLines(Estate draft) {
            draft.clear();
            behind = 0;
            gatesTold = 0;
            fault = 0;
            faultPlace = 0;
            int lines = 0;
            for (int i = 0; i <= Tape.ROOM; i++) {
                if (!readToken() || sort == AT_END || !readLine(draft)) {
                    break;
                }
                lines++;
            }
            return lines;
        }

        private boolean readLine(Estate draft) {
            for (int kind = 0; kind < Estate.KINDS; kind++) {
                if (isName(nameOfKind(kind))) {
                    return readTaker(draft, kind);
                }
            }
            if (isName("keeper")) {
                return readKeeper(draft);
            }
            return isName("gate") ? readGate(draft) : refuse(MISPLACED);
        }

        private boolean readTaker(Estate draft, int kind) {
            if (draft.takers >= Estate.MOST_TAKERS) {
                return refuse(TOO_MANY);
            }
            if (!readNumber(0, Estate.GATES - 1)) {
                return false;
            }
            return readSemicolonBehind() && draft.addTaker(kind, number);
        }

        private boolean readKeeper(Estate draft) {
            if (draft.keepers >= Estate.MOST_KEEPERS) {
                return refuse(TOO_MANY);
            }
            if (!readNumber(0, Estate.GATES - 1)) {
                return false;
            }
            int start = number;
            if (!readNumber(0, Estate.MOST_STEP)) {
                return false;
            }
            int step = number;
            if (!readNumber(1, Estate.MOST_EAR)) {
                return false;
            }
            return readSemicolonBehind() && draft.addKeeper(start, step, number);
        }

        private boolean readGate(Estate draft) {
            if (!readNumber(0, Estate.GATES - 1)) {
                return false;
            }
            int g = number;
            if ((gatesTold >> g & 1) == 1) {
                return refuse(GATE_TWICE);
            }
            gatesTold |= 1 << g;
            if (!readNumber(0, Estate.MOST_LIGHT)) {
                return false;
            }
            draft.light[g] = number;
            if (!readNumber(0, Estate.MOST_GROWTH)) {
                return false;
            }
            draft.growth[g] = number;
            return readSemicolonBehind();
        }

        private boolean readNumber(int low, int high) {
            if (!readToken()) {
                return false;
            }
            if (sort != NUMBER) {
                return refuse(MISPLACED);
            }
            return (number >= low && number <= high) || refuse(OUT_OF_BOUNDS);
        }

        private boolean readSemicolonBehind() {
            if (!readToken()) {
                return false;
            }
            return sort == SEMICOLON || refuse(MISPLACED);
        }

        private boolean readToken() {
            first = placeBehindAll(behind, ' ', ' ');
            if (first >= tape.length) {
                first = tape.length;
                behind = first;
                sort = AT_END;
                return true;
            }
            if (tape.isBetween(first, 'a', 'z')) {
                behind = placeBehindAll(first, 'a', 'z');
                sort = NAME;
                return true;
            }
            if (tape.isBetween(first, '0', '9')) {
                behind = placeBehindAll(first, '0', '9');
                sort = NUMBER;
                return takeFigures() || refuse(NO_TOKEN);
            }
            behind = first + 1;
            sort = SEMICOLON;
            return tape.isBetween(first, ';', ';') || refuse(NO_TOKEN);
        }

        private int placeBehindAll(int from, int low, int high) {
            int place = from;
            while (place < tape.length && tape.bytes[place] >= low && tape.bytes[place] <= high) {
                place++;
            }
            return place;
        }

        private boolean takeFigures() {
            if (behind - first > MOST_FIGURES) {
                return false;
            }
            number = 0;
            for (int place = first; place < behind && place < tape.length; place++) {
                number = number * 10 + tape.bytes[place] - '0';
            }
            return true;
        }

        private boolean isName(String name) {
            if (sort != NAME || behind - first != name.length()) {
                return false;
            }
            for (int i = 0; i < name.length(); i++) {
                if (!tape.isBetween(first + i, name.charAt(i), name.charAt(i))) {
                    return false;
                }
            }
            return true;
        }

        private static String nameOfKind(int kind) {
            switch (kind) {
                case 0: return "net";
                case 1: return "dog";
                case 2: return "boy";
                default: return "squire";
            }
        }

        private boolean refuse(int which) {
            fault = which;
            faultPlace = first;
            return false;
        }
    }

    /** What light was seen, where and behind how many nights. */
    private static final class Sightings {
        static final int FARTHEST = 20;
        private static final int ROOM = 6;
        private final int[] night = new int[ROOM];
        private final int[] place = new int[ROOM];
        private final int[] light = new int[ROOM];
        int count;

        boolean add(int n, int g, int v) {
            if (count >= ROOM) {
                return false;
            }
            night[count] = n;
            place[count] = g;
            light[count] = v;
            count++;
            return true;
        }

        boolean fit(Trial trial) {
            int last = latestNight();
            for (int n = 0; n <= last; n++) {
                if (!fitBehind(n, trial.estate)) {
                    return false;
                }
                trial.passOne(false);
            }
            return true;
        }

        private int latestNight() {
            int last = -1;
            for (int i = 0; i < count; i++) {
                last = Math.max(last, night[i]);
            }
            return last;
        }

        private boolean fitBehind(int n, Estate estate) {
            for (int i = 0; i < count; i++) {
                if (night[i] == n && estate.light[place[i]] != light[i]) {
                    return false;
                }
            }
            return true;
        }
    }

    /** The light that a look would find, for each gate that a taker may go to. */
    private static final class Outlook {
        private static final int LOOKS = (Sightings.FARTHEST + 1) * Estate.GATES;
        private final int[][] light = new int[Estate.GATES][LOOKS];
        int count;

        void clear() {
            count = 0;
        }

        void add(Trial trial) {
            if (count >= Estate.GATES) {
                return;
            }
            for (int n = 0; n <= Sightings.FARTHEST; n++) {
                System.arraycopy(trial.estate.light, 0, light[count], n * Estate.GATES, Estate.GATES);
                trial.passOne(false);
            }
            count++;
        }

        int leftAtWorst(int n, int g) {
            int look = n * Estate.GATES + g;
            int worst = 0;
            for (int a = 0; a < count; a++) {
                int alike = 0;
                for (int b = 0; b < count; b++) {
                    alike += light[a][look] == light[b][look] ? 1 : 0;
                }
                worst = Math.max(worst, alike);
            }
            return worst;
        }
    }

    /** A row of bytes, shorts or ints, or nothing. */
    private static final class Sheet {
        static final int LANES = 3, MOST_CELLS = 40;
        static final int FAULT_NULL = 1, FAULT_INDEX = 2, FAULT_CAST = 3, FAULT_SIZE = 4;
        private static final int NO_LANE = -1, BYTES = 0, SHORTS = 1;

        final int[] cells = new int[MOST_CELLS];
        int size;
        private int lane = NO_LANE;

        boolean isNothing() {
            return lane == NO_LANE;
        }

        void renew(int newLane, int newSize) {
            lane = newLane;
            size = newSize;
            for (int i = 0; i < MOST_CELLS; i++) {
                cells[i] = 0;
            }
        }

        boolean lacks(int i) {
            return i < 0 || i >= size;
        }

        boolean put(int i, int v) {
            if (lacks(i)) {
                return false;
            }
            cells[i] = lane == BYTES ? (byte) v : lane == SHORTS ? (short) v : v;
            return true;
        }

        int faultAs(int asLane) {
            if (isNothing()) {
                return FAULT_NULL;
            }
            return lane == asLane ? 0 : FAULT_CAST;
        }
    }
}
