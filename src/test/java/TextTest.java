/** Promises 1 to 5: a new object, the tape, the text and its faults. */
public final class TextTest {
    private static final Check CHECK = new Check();

    public static void main(String[] args) {
        newObject();
        feedAndEnd();
        takenTexts();
        faults();
        textInPlace();
        faultStays();
        CHECK.finish("TextTest");
    }

    private static void newObject() {
        EveningPoach x = new EveningPoach();
        int[] rules = {0, 0, 0, 0, 180, 0, 0, 0};
        for (int what = 0; what < rules.length; what++) {
            CHECK.due("new: rule(" + what + ")", x.rule(what), rules[what]);
        }
        int[] counts = {0, 0, 0, -4, 12, 0};
        for (int what = 0; what < counts.length; what++) {
            CHECK.due("new: count(" + what + ")", x.count(what), counts[what]);
        }
        for (int g = 0; g < 6; g++) {
            CHECK.due("new: gate(" + g + ", 0)", x.gate(g, 0), 30);
            CHECK.due("new: gate(" + g + ", 1)", x.gate(g, 1), 2);
        }
        for (int k = 0; k < 4; k++) {
            CHECK.due("new: lay(" + k + ", 0, 0)", x.lay(k, 0, 0), -11);
        }
        CHECK.due("new: taker(0, 0)", x.taker(0, 0), -1);
        CHECK.due("new: keeper(0, 0)", x.keeper(0, 0), -1);
        CHECK.due("new: back(0)", x.back(0), -2);
        CHECK.due("new: back(1)", x.back(1), -2);
        CHECK.due("new: fault()", x.fault(), 0);
        CHECK.due("new: torn()", x.torn(), 0);
    }

    private static void feedAndEnd() {
        EveningPoach x = new EveningPoach();
        CHECK.due("feed(-1)", x.feed(-1), -1);
        CHECK.due("feed(128)", x.feed(128), -1);
        CHECK.due("feed(max)", x.feed(Integer.MAX_VALUE), -1);
        CHECK.due("feed(min)", x.feed(Integer.MIN_VALUE), -1);
        CHECK.due("end(1) of none", x.end(1), -1);
        CHECK.due("end(0) of none", x.end(0), 0);
        CHECK.due("feed(0)", x.feed(0), 1);
        CHECK.due("feed(127)", x.feed(127), 2);
        for (int n = 3; n <= 160; n++) {
            CHECK.due("feed of byte " + n, x.feed(' '), n);
        }
        CHECK.due("feed at 160", x.feed(' '), -3);
        CHECK.due("feed(128) at 160", x.feed(128), -1);
        CHECK.due("count(2) at 160", x.count(2), 160);
        CHECK.due("end(161)", x.end(161), -1);
        CHECK.due("end(-1)", x.end(-1), -1);
        CHECK.due("end(160)", x.end(160), 160);
        CHECK.due("end(3)", x.end(3), 160);
        CHECK.due("end(4) of 3", x.end(4), -1);
        CHECK.due("end(0)", x.end(0), 3);
        Check.feed(x, "net 1;dog 2;");
        CHECK.due("end behind the first line", x.end(6), 12);
        CHECK.due("text of what is kept", x.text(), 1);
        CHECK.due("rule(0) of what is kept", x.rule(0), 1);
    }

    private static void takenTexts() {
        EveningPoach x = new EveningPoach();
        taken(x, "", 0);
        taken(x, "   ", 0);
        taken(x, "net0;", 1);
        taken(x, "  net   05  ;  ", 1);
        taken(x, "net 00;dog1;boy 02 ;squire 3;boy5;", 5);
        taken(x, "keeper 0 0 1;keeper 5 5 9;keeper 05 05 09;", 3);
        taken(x, "gate 0 0 0;gate 5 60 9;gate 1 1 1;gate 2 2 2;gate 3 3 3;gate 4 4 4;", 6);
        CHECK.due("gate(5, 0)", x.gate(5, 0), 60);
        CHECK.due("gate(5, 1)", x.gate(5, 1), 9);
        CHECK.due("gate(0, 0)", x.gate(0, 0), 0);
        CHECK.due("gate(0, 1)", x.gate(0, 1), 0);
        CHECK.due("gate(4, 0)", x.gate(4, 0), 4);
    }

    private static void taken(EveningPoach x, String text, int lines) {
        CHECK.due("text '" + text + "'", Check.tell(x, text), lines);
        CHECK.due("fault '" + text + "'", x.fault(), 0);
        CHECK.due("tape behind '" + text + "'", x.count(2), 0);
    }

    private static void faults() {
        refused("@", 0, 1);
        refused("  Net 1;", 2, 1);
        refused("\t", 0, 1);
        refused("net-1;", 3, 1);
        refused("net 123;", 4, 1);
        refused("123 net;", 0, 1);
        refused("net 1 000;", 6, 1);
        refused("gate 1 601;", 7, 1);
        refused("net 1;.", 6, 1);
        refused("net 1:", 5, 1);
        refused("net /;", 4, 1);
        refused("net 1{", 5, 1);
        refused("net 1`", 5, 1);
        refused("rook 1;", 0, 2);
        refused("netnet 1;", 0, 2);
        refused("met 1;", 0, 2);
        refused("date 1 1 1;", 0, 2);
        refused("gat 1 1 1;", 0, 2);
        refused("squirt 1;", 0, 2);
        refused("ne 1;", 0, 2);
        refused("nets 1;", 0, 2);
        refused("keepers 1 1 1;", 0, 2);
        refused("gates 1 1 1;", 0, 2);
        refused("net dog;", 4, 2);
        refused("net net 1;", 4, 2);
        refused(";", 0, 2);
        refused("net 1;;", 6, 2);
        refused("1 net;", 0, 2);
        refused("net;", 3, 2);
        refused("net", 3, 2);
        refused("net   ", 6, 2);
        refused("net 1", 5, 2);
        refused("net 1  ", 7, 2);
        refused("net 1 1;", 6, 2);
        refused("net 1 dog 1;", 6, 2);
        refused("keeper 1 1;", 10, 2);
        refused("keeper 1;", 8, 2);
        refused("keeper;", 6, 2);
        refused("keeper 1 1 1 1;", 13, 2);
        refused("gate 1 1;", 8, 2);
        refused("gate 1 1 1", 10, 2);
        refused("net 6 @", 4, 3);
        refused("net 99;", 4, 3);
        refused("dog 06;", 4, 3);
        refused("keeper 6 9 0;", 7, 3);
        refused("keeper 5 6 0;", 9, 3);
        refused("keeper 5 5 0;", 11, 3);
        refused("keeper 5 5 10;", 11, 3);
        refused("gate 6 61 10;", 5, 3);
        refused("gate 5 61 10;", 7, 3);
        refused("gate 5 60 10;", 10, 3);
        refused("gate 2 1 1;gate 02 @", 16, 4);
        refused("gate 2 1 1;gate 3 1 1;gate 2 1 1;", 27, 4);
        refused("net 1;net 1;net 1;net 1;net 1; squire @", 31, 5);
        refused("keeper 1 1 1;keeper 1 1 1;keeper 1 1 1;keeper @", 39, 5);
    }

    private static void refused(String text, int place, int fault) {
        EveningPoach x = new EveningPoach();
        CHECK.due("text '" + text + "'", Check.tell(x, text), -10 - place);
        CHECK.due("fault '" + text + "'", x.fault(), fault);
        CHECK.due("tape behind '" + text + "'", x.count(2), 0);
        CHECK.due("takers behind '" + text + "'", x.rule(0), 0);
        CHECK.due("keepers behind '" + text + "'", x.rule(1), 0);
        CHECK.due("light behind '" + text + "'", x.rule(4), 180);
        CHECK.due("growth behind '" + text + "'", x.count(4), 12);
    }

    private static void textInPlace() {
        EveningPoach x = Check.told("squire 1;keeper 2 1 4;gate 1 50 5;");
        x.nights(4);
        x.see(1, 1, 1);
        x.keep(0);
        x.keep(1);
        x.sheet(0, 1, 7);
        CHECK.due("a fault leaves all", Check.tell(x, "boy 1;gate 0 0 0;dog 6;"), -31);
        CHECK.due("takers stay by a fault", x.rule(0), 1);
        CHECK.due("kind stays by a fault", x.taker(0, 0), 3);
        CHECK.due("night stays by a fault", x.rule(2), 4);
        CHECK.due("seen stays by a fault", x.count(0), 1);
        CHECK.due("images stay by a fault", x.count(1), 2);
        CHECK.due("light stays by a fault", x.gate(0, 0), 38);
        CHECK.due("a text in place", Check.tell(x, "boy 4;"), 1);
        CHECK.due("takers in place", x.rule(0), 1);
        CHECK.due("kind in place", x.taker(0, 0), 2);
        CHECK.due("bag in place", x.taker(0, 2), 0);
        CHECK.due("held in place", x.taker(0, 3), 0);
        CHECK.due("keepers in place", x.rule(1), 0);
        CHECK.due("night in place", x.rule(2), 0);
        CHECK.due("catches in place", x.rule(3), 0);
        CHECK.due("light in place", x.rule(4), 180);
        CHECK.due("growth in place", x.count(4), 12);
        CHECK.due("nothing is seen", x.count(0), 0);
        CHECK.due("images are gone", x.count(1), 0);
        CHECK.due("back of an image that is gone", x.back(0), -2);
        CHECK.due("sheets stay", x.count(3), 7);
        CHECK.due("an empty text", x.text(), 0);
        CHECK.due("an empty text tells all", x.rule(0), 0);
    }

    private static void faultStays() {
        EveningPoach x = new EveningPoach();
        Check.tell(x, "net 9;");
        x.feed('n');
        x.nights(1);
        CHECK.due("fault stays till the next text", x.fault(), 3);
        x.end(0);
        x.text();
        CHECK.due("fault of a text that is taken", x.fault(), 0);
    }
}
