/** Promises 21 to 27: what is best. */
public final class BestTest {
    private static final Check CHECK = new Check();

    public static void main(String[] args) {
        best();
        ripen();
        ripenForTwenty();
        swap();
        round();
        post();
        kind();
        sharp();
        CHECK.finish("BestTest");
    }

    private static void best() {
        EveningPoach x = Check.told("net 0;gate 0 5 0;gate 1 60 9;keeper 1 0 3;");
        CHECK.due("of several the first", x.best(0, 3, 0), 2);
        CHECK.due("how much", x.best(0, 3, 1), 18);
        CHECK.due("behind no nights", x.best(0, 0, 0), 0);
        x.alter(0, 2, 10);
        CHECK.due("with what is in the bag", x.best(0, 3, 1), 28);
        x.order(0, 2, 4);
        CHECK.due("where nobody hears", x.best(0, 60, 0), 1);
        CHECK.due("nothing is changed", x.taker(0, 1), 0);
        x.alter(0, 2, 999);
        CHECK.due("a full bag: the first", x.best(0, 60, 0), 0);
        CHECK.due("a full bag", x.best(0, 60, 1), 999);
        CHECK.due("best(1, 0, 0)", x.best(1, 0, 0), -1);
        CHECK.due("best(-1, 0, 0)", x.best(-1, 0, 0), -1);
        refusals("best", x.best(0, 61, 0), x.best(0, -1, 0), x.best(0, 0, 2), x.best(0, 0, -1));
    }

    private static void ripen() {
        EveningPoach x = Check.told("boy 0;keeper 0 1 1;");
        CHECK.due("he lets the keeper go by", x.ripen(0, 6, 0), 1);
        CHECK.due("how much", x.ripen(0, 6, 1), 15);
        CHECK.due("behind no nights: the fewest", x.ripen(0, 0, 0), 0);
        x.nights(1);
        CHECK.due("in place of those for which he is held", x.ripen(0, 5, 0), 0);
        CHECK.due("how much", x.ripen(0, 5, 1), 15);
        CHECK.due("he is held all the same", x.taker(0, 3), 7);
        EveningPoach y = Check.told("boy 0;squire 0;gate 0 3 0;keeper 0 0 5;");
        CHECK.due("caught whenever he comes: the fewest", y.ripen(0, 30, 0), 0);
        CHECK.due("how much", y.ripen(0, 30, 1), 0);
        CHECK.due("ripen(2, 0, 0)", y.ripen(2, 0, 0), -1);
        refusals("ripen", y.ripen(0, 61, 0), y.ripen(0, -1, 0), y.ripen(0, 0, 2), y.ripen(0, 0, -1));
    }

    /** Found by search, not reckoned by hand; Model answers the same. */
    private static void ripenForTwenty() {
        EveningPoach x = Check.told("squire 4;boy 1;dog 4;keeper 0 2 1;keeper 3 3 5;keeper 1 3 5;gate 4 6 1;");
        CHECK.due("20 nights at home", x.ripen(0, 44, 0), 20);
        CHECK.due("how much", x.ripen(0, 44, 1), 12);
        // The same, a night sooner: 21 nights would give 12 still, but 20 are the most.
        EveningPoach y = Check.told("squire 4;boy 1;dog 4;keeper 0 0 1;gate 4 6 1;");
        y.nights(4);
        y.order(0, 0, 4);
        y.nights(1);
        y.order(0, 0, 0);
        y.nights(6);
        CHECK.due("the dog is back in the next night", y.taker(2, 3), 1);
        y.order(0, 1, 2);
        y.hire(3, 3, 5);
        y.hire(1, 3, 5);
        y.tend(4, 0, 5);
        y.alter(0, 2, 0);
        CHECK.due("not 21", y.ripen(0, 45, 0), 19);
        CHECK.due("not 12", y.ripen(0, 45, 1), 11);
    }

    private static void swap() {
        EveningPoach x = Check.told("squire 0;boy 1;gate 0 0 3;gate 1 60 9;");
        CHECK.due("the two", x.swap(3, 0), 1);
        CHECK.due("how much", x.swap(3, 1), 42);
        CHECK.due("in no nights: by none", x.swap(0, 0), -4);
        CHECK.due("in no nights: by none", x.swap(0, 1), -4);
        CHECK.due("nothing is changed", x.taker(0, 1), 0);
        EveningPoach y = Check.told("boy 1;squire 0;squire 0;gate 0 0 0;gate 1 60 9;");
        CHECK.due("of several the least", y.swap(3, 0), 1);
        EveningPoach z = Check.told("net 3;squire 0;boy 1;gate 0 0 0;gate 3 0 0;gate 1 60 9;");
        CHECK.due("the second and the third", z.swap(3, 0), 12);
        CHECK.due("how much", z.swap(3, 1), 36);
        z.alter(1, 1, 1);
        z.alter(2, 1, 0);
        CHECK.due("none takes more", z.swap(3, 0), -4);
        CHECK.due("none takes more", z.swap(3, 1), -4);
        CHECK.due("one alone", Check.told("net 1;").swap(60, 0), -4);
        refusals("swap", x.swap(61, 0), x.swap(-1, 0), x.swap(0, 2), x.swap(0, -1));
    }

    private static void round() {
        EveningPoach x = Check.told("boy 4;net 5;keeper 0 0 5;keeper 3 1 3;");
        x.dismiss(1);
        CHECK.due("start and step", x.round(0, 1, 0), 40);
        CHECK.due("how many times", x.round(0, 1, 1), 1);
        CHECK.due("in no nights: the least", x.round(0, 0, 0), 0);
        CHECK.due("in no nights", x.round(0, 0, 1), 0);
        x.nights(1);
        CHECK.due("the night counts: 0 and 4", x.round(0, 1, 0), 4);
        x.order(0, 2, 3);
        CHECK.due("first the net, then the boy: 0 and 5", x.round(0, 2, 0), 5);
        CHECK.due("both", x.round(0, 2, 1), 2);
        CHECK.due("nothing is changed", x.keeper(0, 0), 0);
        x.hire(4, 0, 1);
        CHECK.due("by the other the boy is caught: 0 and 5 for the net", x.round(0, 1, 0), 5);
        CHECK.due("anybody, by whom it may be", x.round(0, 1, 1), 2);
        CHECK.due("round(2, 0, 0)", x.round(2, 0, 0), -1);
        CHECK.due("round(-1, 0, 0)", x.round(-1, 0, 0), -1);
        refusals("round", x.round(0, 61, 0), x.round(0, -1, 0), x.round(0, 0, 2), x.round(0, 0, -1));
    }

    private static void post() {
        EveningPoach x = Check.told("squire 2;boy 3;");
        CHECK.due("where the squire is", x.post(5, 2, 0), 2);
        CHECK.due("how much", x.post(5, 2, 1), 6);
        CHECK.due("an ear that hears nobody: the first", x.post(6, 2, 0), 0);
        CHECK.due("how much", x.post(6, 2, 1), 30);
        CHECK.due("nobody is hired", x.rule(1), 0);
        CHECK.due("the sharpest ear", x.post(1, 2, 0), 2);
        CHECK.due("post(0, 0, 0)", x.post(0, 0, 0), -1);
        CHECK.due("post(10, 0, 0)", x.post(10, 0, 0), -1);
        refusals("post", x.post(1, 61, 0), x.post(1, -1, 0), x.post(1, 0, 2), x.post(1, 0, -1));
        x.hire(2, 0, 5);
        CHECK.due("with one there is", x.post(5, 2, 0), 3);
        x.hire(0, 0, 9);
        x.hire(0, 0, 9);
        CHECK.due("a 4th", x.post(5, 2, 0), -3);
        CHECK.due("not as told goes ahead", x.post(5, 2, 2), -1);
    }

    private static void kind() {
        EveningPoach x = Check.told("net 0;keeper 0 0 2;");
        CHECK.due("a dog is not heard", x.kind(0, 2, 0), 1);
        CHECK.due("how much", x.kind(0, 2, 1), 12);
        CHECK.due("behind no nights: the first", x.kind(0, 0, 0), 0);
        x.dismiss(0);
        CHECK.due("a squire takes most", x.kind(0, 2, 0), 3);
        CHECK.due("how much", x.kind(0, 2, 1), 24);
        CHECK.due("nothing is changed", x.taker(0, 0), 0);
        x.tend(0, 0, 6);
        CHECK.due("of several the first", x.kind(0, 1, 0), 0);
        CHECK.due("kind(1, 0, 0)", x.kind(1, 0, 0), -1);
        CHECK.due("kind(-1, 0, 0)", x.kind(-1, 0, 0), -1);
        refusals("kind", x.kind(0, 61, 0), x.kind(0, -1, 0), x.kind(0, 0, 2), x.kind(0, 0, -1));
    }

    private static void sharp() {
        EveningPoach x = Check.told("net 3;dog 3;boy 3;squire 3;boy 2;keeper 3 0 9;keeper 5 0 1;");
        int[] ears = {3, 1, 5, 5, -4};
        for (int t = 0; t < 5; t++) {
            CHECK.due("sharp(0, " + t + ", 1)", x.sharp(0, t, 1), ears[t]);
            CHECK.due("sharp(1, " + t + ", 1)", x.sharp(1, t, 1), -4);
            CHECK.due("sharp(0, " + t + ", 0)", x.sharp(0, t, 0), -4);
        }
        CHECK.due("nothing is changed", x.keeper(0, 2), 9);
        x.order(1, 0, 3);
        CHECK.due("caught by another: the greatest", x.sharp(0, 1, 60), 9);
        x.order(1, 0, 5);
        x.order(1, 1, 1);
        CHECK.due("the other comes in the 5th night", x.sharp(0, 0, 5), 9);
        CHECK.due("not in 4", x.sharp(0, 0, 4), 3);
        CHECK.due("sharp(2, 0, 0)", x.sharp(2, 0, 0), -1);
        CHECK.due("sharp(-1, 0, 0)", x.sharp(-1, 0, 0), -1);
        CHECK.due("sharp(0, 5, 0)", x.sharp(0, 5, 0), -1);
        CHECK.due("sharp(0, -1, 0)", x.sharp(0, -1, 0), -1);
        CHECK.due("sharp(0, 0, 61)", x.sharp(0, 0, 61), -1);
        CHECK.due("sharp(0, 0, -1)", x.sharp(0, 0, -1), -1);
    }

    private static void refusals(String call, int... answers) {
        for (int i = 0; i < answers.length; i++) {
            CHECK.due(call + ", not as told, " + i, answers[i], -1);
        }
    }
}
