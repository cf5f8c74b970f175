/** Promises 21 to 29 at their edges: what is best, hazes. */
final class BestEdges {
    private final Edges e;

    BestEdges(Edges e) {
        this.e = e;
    }

    void run() {
        best();
        bestOfSeveral();
        ripen();
        ripenAtMostTwenty();
        swap();
        swapByNone();
        round();
        roundOfTheLast();
        post();
        kind();
        sharp();
        sharpBehindNights();
        luck();
        luckWhileHeld();
        mean();
        meanAtTheEnds();
    }

    private void best() {
        e.promise(21, "The GATE by which BAG of a TAKER is most behind n NIGHTS (0 to 60), of several the first (what 0), "
            + "how much (1). BAD.");
        EveningPoach x = Check.told("boy 0;net 3;gate 5 60 9;");
        x.alter(1, 2, 7);
        e.due("behind no nights: the first", x.best(1, 0, 0), 0);
        e.due("how much", x.best(1, 0, 1), 7);
        e.due("behind one night: the first", x.best(1, 1, 0), 0);
        e.due("how much", x.best(1, 1, 1), 13);
        e.due("behind 60: the last", x.best(1, 60, 0), 5);
        e.due("how much", x.best(1, 60, 1), 367);
        x.alter(1, 2, 640);
        e.due("999 at most", x.best(1, 60, 1), 999);
        e.due("his gate stays", x.taker(1, 1), 3);
        e.bad("best", x.best(2, 1, 0), x.best(-1, 1, 0), x.best(0, 61, 0), x.best(0, -1, 0), x.best(0, 1, 2),
            x.best(0, 1, -1), x.best(0, Integer.MAX_VALUE, 0), new EveningPoach().best(0, 0, 0));
    }

    private void bestOfSeveral() {
        EveningPoach x = Check.told("boy 0;gate 2 60 9;gate 4 60 9;keeper 1 0 5;");
        e.due("of two the first", x.best(0, 60, 0), 2);
        x.order(0, 0, 2);
        e.due("where no keeper hears him", x.best(0, 60, 0), 4);
        x.alter(0, 2, 999);
        e.due("of all with a full bag the first", x.best(0, 60, 0), 0);
        e.due("how much", x.best(0, 60, 1), 999);
        EveningPoach y = Check.told("boy 0;keeper 0 0 5;");
        y.nights(1);
        e.due("while he is held: the first", y.best(0, 7, 0), 0);
        e.due("nothing", y.best(0, 7, 1), 0);
        e.due("a night more", y.best(0, 8, 0), 1);
        e.due("how much", y.best(0, 8, 1), 3);
    }

    private void ripen() {
        e.promise(22, "For how many NIGHTS (0 to 20) a TAKER had better stay at home from now on "
            + "(in place of those for which he is HELD: he takes nothing, nobody HEARS him) "
            + "so that his BAG is most behind n NIGHTS (0 to 60), of several the fewest (what 0), how much (1). BAD.");
        EveningPoach x = Check.told("boy 0;keeper 0 1 5;");
        e.due("behind no nights: the fewest", x.ripen(0, 0, 0), 0);
        e.due("how much", x.ripen(0, 0, 1), 0);
        e.due("caught or at home, nothing: the fewest", x.ripen(0, 1, 0), 0);
        e.due("behind two", x.ripen(0, 2, 0), 1);
        e.due("how much", x.ripen(0, 2, 1), 3);
        x.nights(1);
        e.due("in place of 7", x.ripen(0, 1, 0), 0);
        e.due("how much", x.ripen(0, 1, 1), 3);
        e.due("he is held all the same", x.ahead(0, 1, 0), 0);
        x.order(0, 1, 0);
        e.due("always heard: the fewest", x.ripen(0, 60, 0), 0);
        e.due("nothing", x.ripen(0, 60, 1), 0);
        x.alter(0, 2, 999);
        e.due("a full bag: the fewest", x.ripen(0, 60, 0), 0);
        e.due("how much", x.ripen(0, 60, 1), 999);
        e.bad("ripen", x.ripen(1, 1, 0), x.ripen(-1, 1, 0), x.ripen(0, 61, 0), x.ripen(0, -1, 0), x.ripen(0, 1, 2),
            x.ripen(0, 1, -1), x.ripen(0, Integer.MIN_VALUE, 0), new EveningPoach().ripen(0, 0, 0));
    }

    /** Found by search; each wait is tried in truth. */
    private static EveningPoach worthTwentyNights() {
        return Check.told("squire 4;boy 1;dog 4;keeper 0 2 1;keeper 3 3 5;keeper 1 3 5;gate 4 6 1;gate 5 0 0;");
    }

    /** As the other, a night sooner, with the dog held for that night. */
    private static EveningPoach worthMoreThanTwenty() {
        EveningPoach x = Check.told("squire 4;boy 1;dog 4;keeper 0 0 1;gate 4 6 1;gate 5 0 0;");
        x.nights(4);
        x.order(0, 0, 4);
        x.nights(1);
        x.order(0, 0, 0);
        x.nights(6);
        x.order(0, 1, 2);
        x.hire(3, 3, 5);
        x.hire(1, 3, 5);
        x.tend(4, 0, 5);
        x.alter(0, 2, 0);
        return x;
    }

    private void ripenAtMostTwenty() {
        ripens(BestEdges::worthTwentyNights, 44, 20);
        ripens(BestEdges::worthMoreThanTwenty, 45, 19);
        int most = worthMoreThanTwenty().ripen(0, 45, 1);
        e.due("21 would be more", bagBehind(worthMoreThanTwenty(), 21, 45) > most ? 1 : 0, 1);
    }

    private void ripens(Twins.Past past, int n, int wait) {
        int best = 0;
        for (int w = 1; w <= 20; w++) {
            best = bagBehind(past.made(), w, n) > bagBehind(past.made(), best, n) ? w : best;
        }
        e.due("nights at home, in truth", best, wait);
        e.due("nights at home", past.made().ripen(0, n, 0), wait);
        e.due("how much", past.made().ripen(0, n, 1), bagBehind(past.made(), wait, n));
    }

    /** Gate 5 has no light and no keeper comes there: who goes there is as one who stays at home. */
    private static int bagBehind(EveningPoach x, int wait, int n) {
        x.free(0);
        x.alter(0, 1, 5);
        x.nights(wait);
        x.alter(0, 1, 4);
        x.nights(Math.min(30, n - wait));
        x.nights(Math.max(0, n - wait - 30));
        return x.taker(0, 2);
    }

    private void swap() {
        e.promise(23, "Two TAKERS who are to change GATES so that most is taken in n NIGHTS (0 to 60), more than as it is: "
            + "10 times the lesser and the greater, of several the least (what 0), how much (1). BAD; NONE: by none.");
        EveningPoach x = Check.told("net0;net1;net2;squire3;boy4;gate3 0 0;gate4 60 9;");
        e.due("the last two", x.swap(1, 0), 34);
        e.due("how much", x.swap(1, 1), 30);
        e.due("nobody's gate is changed", x.taker(3, 1), 3);
        EveningPoach y = Check.told("squire0;boy1;boy2;gate0 0 0;");
        e.due("of several the least", y.swap(1, 0), 1);
        e.due("how much", y.swap(1, 1), 15);
        e.bad("swap", x.swap(61, 0), x.swap(-1, 0), x.swap(1, 2), x.swap(1, -1), x.swap(Integer.MAX_VALUE, 0),
            x.swap(Integer.MIN_VALUE, 0), new EveningPoach().swap(61, 0));
    }

    private void swapByNone() {
        EveningPoach x = new EveningPoach();
        e.due("no takers", x.swap(60, 0), -4);
        e.due("no takers", x.swap(60, 1), -4);
        Check.tell(x, "net 0;");
        e.due("one taker", x.swap(60, 0), -4);
        Check.tell(x, "net 0;squire 0;gate 0 0 0;");
        e.due("both at one gate", x.swap(60, 0), -4);
        Check.tell(x, "net 0;dog 1;");
        e.due("as much, no more", x.swap(60, 0), -4);
        e.due("as much, no more", x.swap(60, 1), -4);
        Check.tell(x, "squire 0;boy 1;gate 0 3 0;");
        e.due("in no nights", x.swap(0, 0), -4);
        e.due("in one night", x.swap(1, 0), 1);
        e.due("12 and 3 for 3 and 3", x.swap(1, 1), 15);
    }

    private void round() {
        e.promise(24, "START, STEP of a KEEPER by which anybody is CAUGHT most times in n NIGHTS (0 to 60): "
            + "10 times START and STEP, of several the least (what 0), how many times (1). BAD.");
        EveningPoach x = Check.told("boy 0;keeper 3 3 5;");
        e.due("in no nights: the least", x.round(0, 0, 0), 0);
        e.due("never", x.round(0, 0, 1), 0);
        e.due("in one night", x.round(0, 1, 0), 0);
        e.due("once", x.round(0, 1, 1), 1);
        e.due("in 60", x.round(0, 60, 1), 8);
        e.row("his own round stays", new int[] {3, 3, 5}, what -> x.keeper(0, what));
        x.order(0, 2, 6);
        e.due("who hears nobody: the least", x.round(0, 60, 0), 0);
        e.due("never", x.round(0, 60, 1), 0);
        e.bad("round", x.round(1, 1, 0), x.round(-1, 1, 0), x.round(0, 61, 0), x.round(0, -1, 0), x.round(0, 1, 2),
            x.round(0, 1, -1), x.round(0, Integer.MAX_VALUE, 0), new EveningPoach().round(0, 0, 0));
        EveningPoach y = Check.told("keeper 5 5 1;");
        e.due("of no takers: the least", y.round(0, 60, 0), 0);
        e.due("never", y.round(0, 60, 1), 0);
    }

    /** In night 12 the second is held for one night more: first 5, then 4 meets both, by START 5 and STEP 5 alone. */
    private void roundOfTheLast() {
        EveningPoach x = Check.told("boy 5;dog 4;keeper 4 0 5;");
        x.nights(5);
        x.alter(1, 0, 2);
        x.nights(7);
        e.due("held", x.taker(1, 3), 1);
        e.due("5 and 5", x.round(0, 2, 0), 55);
        e.due("both", x.round(0, 2, 1), 2);
        e.due("in one night the first alone: the least", x.round(0, 1, 0), 50);
    }

    private void post() {
        e.promise(25, "START of a KEEPER more (STEP 0, of an EAR) by which least is taken in n NIGHTS (0 to 60), "
            + "of several the first (what 0), how much (1). BAD; FULL: there are 3 KEEPERS.");
        EveningPoach x = Check.told("squire 5;boy 0;");
        e.due("in no nights: the first", x.post(5, 0, 0), 0);
        e.due("nothing", x.post(5, 0, 1), 0);
        e.due("the last", x.post(5, 1, 0), 5);
        e.due("how much", x.post(5, 1, 1), 3);
        e.due("the least ear", x.post(1, 1, 0), 5);
        e.due("an ear of 6 hears neither: the first", x.post(6, 1, 0), 0);
        e.due("how much", x.post(6, 1, 1), 15);
        e.due("the greatest ear", x.post(9, 60, 0), 0);
        // He stays where he begins: the squire is caught in the first night and held then, the boy takes 3 in each.
        e.due("by a step of 0", x.post(5, 8, 1), 24);
        e.bad("post", x.post(0, 1, 0), x.post(10, 1, 0), x.post(1, 61, 0), x.post(1, -1, 0), x.post(1, 1, 2),
            x.post(1, 1, -1), x.post(Integer.MIN_VALUE, 1, 0), x.post(1, Integer.MAX_VALUE, 0));
        x.hire(5, 0, 5);
        x.hire(1, 0, 5);
        e.due("a third", x.post(5, 1, 0), 0);
        e.due("nothing is taken", x.post(5, 1, 1), 0);
        e.due("nobody is hired", x.rule(1), 2);
        x.hire(1, 0, 5);
        e.due("a fourth", x.post(5, 1, 0), -3);
        e.bad("a fourth, not as told", x.post(0, 1, 0), x.post(1, 61, 0), x.post(1, 1, 2));
        e.due("of no takers: the first", new EveningPoach().post(1, 60, 0), 0);
    }

    private void kind() {
        e.promise(26, "The KIND of a TAKER by which his BAG is most behind n NIGHTS (0 to 60), of several the first (what 0), "
            + "how much (1). BAD.");
        EveningPoach x = Check.told("boy 0;keeper 0 0 6;");
        x.alter(0, 2, 4);
        e.due("behind no nights: the first", x.kind(0, 0, 0), 0);
        e.due("how much", x.kind(0, 0, 1), 4);
        // An ear of 1 hears all, of 2 and 3 all but the dog, of 4 and 5 the boy and the squire, of 6 and more nobody.
        int[] byEar = {0, 1, 1, 0, 0, 3, 3, 3, 3};
        int[] muchByEar = {4, 10, 10, 10, 10, 16, 16, 16, 16};
        for (int ear = 1; ear <= 9; ear++) {
            x.order(0, 2, ear);
            e.due("by an ear of " + ear, x.kind(0, 1, 0), byEar[ear - 1]);
            e.due("how much by an ear of " + ear, x.kind(0, 1, 1), muchByEar[ear - 1]);
        }
        e.due("his kind stays", x.taker(0, 0), 2);
        x.tend(0, 0, 3);
        e.due("all take 3: the first", x.kind(0, 1, 0), 0);
        x.alter(0, 2, 999);
        e.due("a full bag: the first", x.kind(0, 60, 0), 0);
        e.due("how much", x.kind(0, 60, 1), 999);
        e.bad("kind", x.kind(1, 1, 0), x.kind(-1, 1, 0), x.kind(0, 61, 0), x.kind(0, -1, 0), x.kind(0, 1, 2),
            x.kind(0, 1, -1), x.kind(0, Integer.MAX_VALUE, 0), new EveningPoach().kind(0, 0, 0));
    }

    private void sharp() {
        e.promise(27, "The greatest EAR of a KEEPER by which a TAKER is CAUGHT in n NIGHTS (0 to 60). BAD; NONE: by none.");
        EveningPoach x = Check.told("net 0;dog 0;boy 0;squire 0;boy 1;keeper 0 0 9;keeper 1 0 9;");
        e.row("by the first", new int[] {3, 1, 5, 5, -4, -1}, t -> x.sharp(0, t, 1));
        e.row("by the second", new int[] {-4, -4, -4, -4, 5, -1}, t -> x.sharp(1, t, 60));
        e.row("in no nights", new int[] {-4, -4, -4, -4, -4, -1}, t -> x.sharp(0, t, 0));
        e.due("his own ear stays", x.keeper(0, 2), 9);
        x.order(1, 2, 5);
        e.due("caught by the other, whatever the ear is", x.sharp(0, 4, 1), 9);
        e.bad("sharp", x.sharp(2, 0, 1), x.sharp(-1, 0, 1), x.sharp(0, -1, 1), x.sharp(0, 0, 61), x.sharp(0, 0, -1),
            x.sharp(Integer.MAX_VALUE, 0, 1), x.sharp(0, 0, Integer.MIN_VALUE), new EveningPoach().sharp(0, 0, 0));
    }

    private void sharpBehindNights() {
        EveningPoach x = Check.told("net 5;keeper 0 1 1;");
        e.due("not in 5 nights", x.sharp(0, 0, 5), -4);
        e.due("in 6", x.sharp(0, 0, 6), 3);
        e.due("in 60", x.sharp(0, 0, 60), 3);
        EveningPoach y = Check.told("boy 0;keeper 0 0 1;");
        y.nights(1);
        e.due("held for 7", y.sharp(0, 0, 7), -4);
        e.due("in the 8th", y.sharp(0, 0, 8), 5);
    }

    private void lucky(EveningPoach x, int v, int n, long numerator, long denominator) {
        e.due("luck by " + v + " in " + n + ", 0", x.luck(v, 0, n, 0), numerator);
        e.due("luck by " + v + " in " + n + ", 1", x.luck(v, 0, n, 1), denominator);
    }

    private void luck() {
        e.promise(28, "Each of n NIGHTS (0 to 8) is hazy by v out of ten (0 to 10), by itself "
            + "(no KEEPER HEARS anybody in it): that a TAKER is not CAUGHT in them: 0, 1. BAD.");
        EveningPoach x = Check.told("boy 0;keeper 0 0 5;keeper 0 0 1;");
        lucky(x, 0, 0, 1, 1);
        lucky(x, 10, 0, 1, 1);
        lucky(x, 0, 1, 0, 1);
        lucky(x, 0, 8, 0, 1);
        lucky(x, 10, 8, 1, 1);
        lucky(x, 1, 8, 1, 100000000);
        lucky(x, 9, 8, 43046721, 100000000);
        lucky(x, 3, 1, 3, 10);
        lucky(x, 5, 8, 1, 256);
        e.bad("luck", x.luck(-1, 0, 1, 0), x.luck(11, 0, 1, 0), x.luck(1, 1, 1, 0), x.luck(1, -1, 1, 0), x.luck(1, 0, 9, 0),
            x.luck(1, 0, -1, 0), x.luck(1, 0, 1, 2), x.luck(1, 0, 1, -1), x.luck(Integer.MAX_VALUE, 0, 1, 0),
            x.luck(1, 0, Integer.MIN_VALUE, 0), new EveningPoach().luck(0, 0, 0, 0));
        EveningPoach y = Check.told("dog 0;keeper 0 0 2;");
        lucky(y, 0, 8, 1, 1);
    }

    private void luckWhileHeld() {
        EveningPoach x = Check.told("boy 0;keeper 0 0 5;");
        x.nights(1);
        lucky(x, 0, 7, 1, 1);
        lucky(x, 0, 8, 0, 1);
        lucky(x, 4, 8, 2, 5);
        e.due("he is held still", x.taker(0, 3), 7);
        EveningPoach y = Check.told("boy 5;keeper 0 1 5;");
        lucky(y, 7, 5, 1, 1);
        lucky(y, 7, 6, 7, 10);
        lucky(y, 7, 8, 7, 10);
    }

    private void means(EveningPoach x, int v, int n, long numerator, long denominator) {
        e.due("mean by " + v + " in " + n + ", 0", x.mean(v, n, 0), numerator);
        e.due("mean by " + v + " in " + n + ", 1", x.mean(v, n, 1), denominator);
    }

    private void mean() {
        e.promise(29, "Likewise, the mean of how much is taken in them: 0, 1. BAD.");
        EveningPoach x = Check.told("boy 0;keeper 0 0 5;");
        means(x, 0, 0, 0, 1);
        means(x, 10, 0, 0, 1);
        means(x, 0, 8, 0, 1);
        means(x, 10, 8, 24, 1);
        means(x, 1, 1, 3, 10);
        // 3 for each night ahead of the first clear one: 3 (1/10 + .. + 1/10 to the 8th).
        means(x, 1, 8, 33333333, 100000000);
        x.alter(0, 2, 999);
        means(x, 5, 1, 3, 2);
        e.bad("mean", x.mean(-1, 1, 0), x.mean(11, 1, 0), x.mean(1, 9, 0), x.mean(1, -1, 0), x.mean(1, 1, 2), x.mean(1, 1, -1),
            x.mean(Integer.MIN_VALUE, 1, 0), x.mean(1, Integer.MAX_VALUE, 0));
        means(new EveningPoach(), 5, 8, 0, 1);
    }

    private void meanAtTheEnds() {
        EveningPoach x = Check.told("boy 0;net 1;squire 0;keeper 0 1 3;keeper 0 0 5;gate 0 9 4;");
        EveningPoach deaf = Check.told("boy 0;net 1;squire 0;gate 0 9 4;");
        for (int n = 0; n <= 8; n++) {
            means(x, 0, n, x.runs(n, 0), 1);
            means(x, 10, n, deaf.runs(n, 0), 1);
        }
    }
}
