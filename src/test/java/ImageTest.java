/** Promises 36 to 42: images, sheets, counts. */
public final class ImageTest {
    private static final Check CHECK = new Check();

    public static void main(String[] args) {
        images();
        sheets();
        lanes();
        read();
        readRefused();
        readAtTheLastNight();
        count();
        CHECK.finish("ImageTest");
    }

    private static void images() {
        EveningPoach x = Check.told("boy 1;net 2;keeper 1 0 5;gate 3 7 8;");
        CHECK.due("back of none", x.back(0), -2);
        CHECK.due("keep(0)", x.keep(0), 0);
        x.nights(3);
        x.see(1, 1, 1);
        CHECK.due("keep(1)", x.keep(1), 0);
        CHECK.due("keep(1) again", x.keep(1), 1);
        x.alter(1, 0, 3);
        x.alter(1, 1, 4);
        x.free(0);
        x.tend(3, 1, 0);
        x.order(0, 1, 2);
        x.hire(1, 1, 1);
        x.nights(2);
        CHECK.due("back(1)", x.back(1), 3);
        int[] rules = {2, 1, 3, 1, 36 + 36 + 18 + 31 + 36 + 36, 18, 1, 0};
        for (int what = 0; what < 8; what++) {
            CHECK.due("rule(" + what + ") of image 1", x.rule(what), rules[what]);
        }
        CHECK.due("kind", x.taker(1, 0), 0);
        CHECK.due("gate", x.taker(1, 1), 2);
        CHECK.due("held", x.taker(0, 3), 5);
        CHECK.due("growth", x.gate(3, 1), 8);
        CHECK.due("step", x.keeper(0, 1), 0);
        CHECK.due("seen stays", x.count(0), 1);
        CHECK.due("back(0)", x.back(0), 0);
        CHECK.due("catches", x.rule(3), 0);
        CHECK.due("light", x.gate(3, 0), 7);
        CHECK.due("bag", x.taker(1, 2), 0);
        CHECK.due("an image stays", x.back(1), 3);
        x.dismiss(0);
        CHECK.due("and is not what is changed", x.back(1), 3);
        CHECK.due("keepers", x.rule(1), 1);
        CHECK.due("keep(2)", x.keep(2), -1);
        CHECK.due("keep(-1)", x.keep(-1), -1);
        CHECK.due("back(2)", x.back(2), -1);
        CHECK.due("back(-1)", x.back(-1), -1);
    }

    private static void sheets() {
        EveningPoach x = new EveningPoach();
        CHECK.due("sheet(0, 0, 0)", x.sheet(0, 0, 0), 1);
        CHECK.due("a row of no cells", x.lay(0, 0, 1), -12);
        CHECK.due("sheet(3, 2, 40)", x.sheet(3, 2, 40), 1);
        CHECK.due("lay(3, 39, 1)", x.lay(3, 39, 1), 1);
        CHECK.due("lay(3, 40, 1)", x.lay(3, 40, 1), -12);
        CHECK.due("lay(3, -1, 1)", x.lay(3, -1, 1), -12);
        CHECK.due("lay(3, max, 1)", x.lay(3, Integer.MAX_VALUE, 1), -12);
        CHECK.due("lay(3, min, 1)", x.lay(3, Integer.MIN_VALUE, 1), -12);
        CHECK.due("lay(1, -1, 1)", x.lay(1, -1, 1), -11);
        CHECK.due("lay(4, 0, 0)", x.lay(4, 0, 0), -1);
        CHECK.due("lay(-1, 0, 0)", x.lay(-1, 0, 0), -1);
        CHECK.due("sheet(4, 0, 0)", x.sheet(4, 0, 0), -1);
        CHECK.due("sheet(-1, 0, 0)", x.sheet(-1, 0, 0), -1);
        CHECK.due("sheet(0, 3, 0)", x.sheet(0, 3, 0), -1);
        CHECK.due("sheet(0, -1, 0)", x.sheet(0, -1, 0), -1);
        CHECK.due("sheet(0, 0, 41)", x.sheet(0, 0, 41), -1);
        CHECK.due("sheet(0, 0, -1)", x.sheet(0, 0, -1), -14);
        CHECK.due("sheet(0, 0, min)", x.sheet(0, 0, Integer.MIN_VALUE), -14);
        CHECK.due("sheet(4, 0, -1)", x.sheet(4, 0, -1), -1);
        CHECK.due("sheet(0, 3, -1)", x.sheet(0, 3, -1), -1);
        CHECK.due("sheet(2, 0, -1)", x.sheet(2, 0, -1), -14);
        CHECK.due("what is refused is nothing still", x.lay(2, 0, 0), -11);
    }

    private static void lanes() {
        EveningPoach x = Check.told("net 0;boy 0;");
        laid(x, 0, 256 + 1, 512 + 5, 1);
        laid(x, 1, 65536 + 1, -65536 + 5, 1);
        laid(x, 2, 1, 5, 1);
        laid(x, 0, 255, 0, -20);
        laid(x, 1, 256 + 1, 0, -20);
        laid(x, 2, 65536 + 1, 0, -20);
        laid(x, 0, 0, 128, -20);
        laid(x, 1, 0, 32768 + 3, -20);
        x.sheet(0, 2, 2);
        x.lay(0, 0, 1);
        x.lay(0, 1, 4);
        x.sheet(0, 2, 2);
        x.alter(0, 1, 3);
        x.alter(1, 1, 3);
        CHECK.due("a new row of cells 0", x.read(0, 2, 0, 1), 1);
        CHECK.due("taker 0 to gate 0", x.taker(0, 1), 0);
        CHECK.due("taker 1 stays", x.taker(1, 1), 3);
    }

    private static void laid(EveningPoach x, int lane, int t, int g, int due) {
        x.sheet(0, lane, 2);
        x.lay(0, 0, t);
        x.lay(0, 1, g);
        CHECK.due("read of " + t + ", " + g + " in lane " + lane, x.read(0, lane, 0, 1), due);
        if (due == 1) {
            CHECK.due("gate by " + g + " in lane " + lane, x.taker(1, 1), 5);
            x.alter(1, 1, 0);
        }
    }

    private static EveningPoach withSheet(int... cells) {
        EveningPoach x = Check.told("net 0;boy 1;keeper 4 0 4;");
        x.sheet(1, 1, cells.length);
        for (int i = 0; i < cells.length; i++) {
            x.lay(1, i, cells[i]);
        }
        return x;
    }

    private static void read() {
        EveningPoach x = withSheet(9, 0, 3, 1, 4, 0, 2);
        CHECK.due("two of three", x.read(1, 1, 1, 2), 2);
        CHECK.due("no fault", x.torn(), 0);
        CHECK.due("nights went", x.rule(2), 2);
        CHECK.due("the net's gate", x.taker(0, 1), 3);
        CHECK.due("the boy's gate", x.taker(1, 1), 4);
        CHECK.due("the net took twice", x.taker(0, 2), 12);
        CHECK.due("the boy took once, then he was caught", x.taker(1, 2), 3);
        CHECK.due("catches", x.rule(3), 1);
        CHECK.due("behind the last whole one", x.read(1, 1, 5, 20), 1);
        CHECK.due("index", x.torn(), 2);
        CHECK.due("that came", x.taker(0, 1), 2);
        CHECK.due("night", x.rule(2), 3);
        CHECK.due("half of one", x.read(1, 1, 6, 1), 0);
        CHECK.due("index", x.torn(), 2);
        CHECK.due("none came", x.rule(2), 3);
        CHECK.due("another lane", x.read(1, 2, 1, 1), 0);
        CHECK.due("cast", x.torn(), 3);
        CHECK.due("n 0", x.read(1, 1, -7, 0), 0);
        CHECK.due("no fault", x.torn(), 0);
        CHECK.due("nothing", x.read(0, 1, 1, 1), 0);
        CHECK.due("null", x.torn(), 1);
        CHECK.due("n 0 of nothing", x.read(0, 1, 1, 0), 0);
        CHECK.due("no fault", x.torn(), 0);
        x.read(1, 0, 0, 1);
        CHECK.due("n 0 of another lane", x.read(1, 2, 1, 0), 0);
        CHECK.due("no fault", x.torn(), 0);
        int[] far = {-1, 7, Integer.MAX_VALUE, Integer.MAX_VALUE - 1, Integer.MIN_VALUE};
        for (int f : far) {
            CHECK.due("read from " + f, x.read(1, 1, f, 20), 0);
            CHECK.due("index", x.torn(), 2);
        }
    }

    private static void readRefused() {
        EveningPoach x = withSheet(0, 3, 1, 2, 2, 0, 0);
        x.read(1, 0, 0, 1);
        CHECK.due("the third is no taker", x.read(1, 1, 0, 4), -22);
        CHECK.due("none came", x.rule(2), 0);
        CHECK.due("nobody went", x.taker(0, 1), 0);
        CHECK.due("nothing was taken", x.rule(5), 0);
        CHECK.due("torn is left", x.torn(), 3);
        CHECK.due("it is the first of these", x.read(1, 1, 4, 1), -20);
        CHECK.due("two alone come", x.read(1, 1, 0, 2), 2);
        x.lay(1, 0, 1);
        x.lay(1, 1, 6);
        CHECK.due("no gate", x.read(1, 1, 0, 1), -20);
        x.lay(1, 1, -1);
        CHECK.due("no gate", x.read(1, 1, 0, 1), -20);
        x.lay(1, 0, -1);
        CHECK.due("no taker", x.read(1, 1, 0, 1), -20);
        x.lay(1, 6, 9);
        CHECK.due("half of one is not refused", x.read(1, 1, 6, 1), 0);
        CHECK.due("index", x.torn(), 2);
        CHECK.due("read(4, 0, 0, 0)", x.read(4, 0, 0, 0), -1);
        CHECK.due("read(-1, 0, 0, 0)", x.read(-1, 0, 0, 0), -1);
        CHECK.due("read(0, 3, 0, 0)", x.read(0, 3, 0, 0), -1);
        CHECK.due("read(0, -1, 0, 0)", x.read(0, -1, 0, 0), -1);
        CHECK.due("read(0, 0, 0, 21)", x.read(0, 0, 0, 21), -1);
        CHECK.due("read(0, 0, 0, -1)", x.read(0, 0, 0, -1), -1);
        CHECK.due("torn is left", x.torn(), 2);
    }

    private static void readAtTheLastNight() {
        EveningPoach x = withSheet(0, 1, 0, 2, 0, 3, 0);
        for (int i = 0; i < 33; i++) {
            x.nights(30);
        }
        x.nights(7);
        CHECK.due("the third finds night 999", x.read(1, 1, 0, 3), -22);
        CHECK.due("none came", x.rule(2), 997);
        CHECK.due("two come", x.read(1, 1, 0, 2), 2);
        CHECK.due("night", x.rule(2), 999);
        CHECK.due("no more", x.read(1, 1, 0, 1), -20);
        CHECK.due("half of one", x.read(1, 1, 6, 1), 0);
        CHECK.due("index", x.torn(), 2);
        CHECK.due("n 0", x.read(1, 1, 0, 0), 0);
    }

    private static void count() {
        EveningPoach x = Check.told("keeper 0 0 4;keeper 0 0 9;gate 0 1 9;gate 1 1 0;");
        x.see(0, 0, 1);
        x.keep(1);
        Check.feed(x, "net");
        int[] counts = {1, 1, 3, -4, 17, 13};
        for (int what = 0; what < 6; what++) {
            CHECK.due("count(" + what + ")", x.count(what), counts[what]);
        }
        x.keep(0);
        CHECK.due("both images", x.count(1), 2);
        x.sheet(1, 0, 9);
        CHECK.due("another sheet", x.count(3), -4);
        x.sheet(0, 0, 0);
        CHECK.due("no cells", x.count(3), 0);
        x.sheet(0, 1, 40);
        CHECK.due("40 cells", x.count(3), 40);
        x.sheet(0, 1, -1);
        CHECK.due("a refused row leaves it", x.count(3), 40);
        CHECK.due("count(6)", x.count(6), -1);
        CHECK.due("count(-1)", x.count(-1), -1);
    }
}
