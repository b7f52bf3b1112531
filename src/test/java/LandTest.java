/** Promises 1 to 9 and 25: a new object, THE TEXT, the land, what is asked of it. */
final class LandTest {
    public static void main(String[] args) {
        newObject();
        typeAndClear();
        landTellsAllAnew();
        faults();
        faultsOfSevenths();
        refusedLandChangesNothing();
        roads();
        armies();
        pages();
        pageStates();
        nowAsks();
        written();
        counts();
        Due.end();
    }

    private static void newObject() {
        ChronicleWar war = new ChronicleWar();
        Due.is("new: count(0)", war.count(0), 4);
        Due.is("new: count(1)", war.count(1), 0);
        Due.is("new: count(2)", war.count(2), 0);
        Due.is("new: count(3)", war.count(3), 0);
        for (int f = 0; f < 4; f++) {
            Due.is("new: roads(" + f + ")", war.roads(f), 0);
        }
        int[] now = {1, 0, 0, 0, 0, 0};
        for (int what = 0; what < 6; what++) {
            Due.is("new: now(" + what + ")", war.now(what), now[what]);
        }
        Due.is("new: trace()", war.trace(), 0);
        Due.is("new: back(0)", war.back(0), ChronicleWar.STATE);
        Due.is("new: back(1)", war.back(1), ChronicleWar.STATE);
        Due.is("new: undo()", war.undo(), ChronicleWar.STATE);
    }

    private static void typeAndClear() {
        ChronicleWar war = new ChronicleWar();
        Due.is("type(-1)", war.type(-1), ChronicleWar.BAD);
        Due.is("type(256)", war.type(256), ChronicleWar.BAD);
        Due.is("type(MIN)", war.type(Integer.MIN_VALUE), ChronicleWar.BAD);
        Due.is("type(0)", war.type(0), 1);
        Due.is("type(255)", war.type(255), 2);
        Due.is("clear()", war.clear(), 2);
        Due.is("clear() of nothing", war.clear(), 0);
        for (int i = 1; i <= 200; i++) {
            Due.is("type(32)", war.type(32), i);
        }
        Due.is("type(32) the 201st", war.type(32), ChronicleWar.FULL);
        Due.is("type(256) the 201st", war.type(256), ChronicleWar.BAD);
        Due.is("count(3)", war.count(3), 200);
        Due.is("land() of blanks", war.land(), 0);
        Due.is("count(3) behind land()", war.count(3), 0);
    }

    private static void landTellsAllAnew() {
        ChronicleWar war = Due.told("f8;r0 7;a0 0 5;a1 7 3;p1 0 0 7;");
        war.keep(0);
        war.keep(1);
        war.orders(0, 8);
        war.day();
        war.orders(0, 1);
        war.rate(0, 0);
        Due.type(war, "r0 1;r1 0;");
        Due.is("land() with a road told twice", war.land(), 2);
        Due.is("count(0)", war.count(0), 4);
        Due.is("count(1)", war.count(1), 0);
        Due.is("count(2)", war.count(2), 0);
        Due.is("roads(0)", war.roads(0), 2);
        Due.is("roads(1)", war.roads(1), 1);
        Due.is("roads(7)", war.roads(7), ChronicleWar.BAD);
        int[] now = {1, 0, 0, 0, 0, 0};
        for (int what = 0; what < 6; what++) {
            Due.is("anew: now(" + what + ")", war.now(what), now[what]);
        }
        Due.is("anew: undo()", war.undo(), ChronicleWar.STATE);
        Due.is("anew: written(1, 0)", war.written(1, 0), ChronicleWar.NO);
        Due.is("anew: back(0)", war.back(0), ChronicleWar.STATE);
        Due.is("anew: back(1)", war.back(1), ChronicleWar.STATE);
        Due.is("anew: trace()", war.trace(), 1);
        Due.is("land() of an empty text", war.land(), 0);
        Due.is("roads(0) of an empty text", war.roads(0), 0);
    }

    private static void fault(String text, int place) {
        ChronicleWar war = new ChronicleWar();
        Due.type(war, text);
        Due.is("land() of \"" + text + "\"", war.land(), -10 - place);
        Due.is("clear() of \"" + text + "\"", war.clear(), text.length());
    }

    private static void faults() {
        String[] right = {"", " ", "f2;", "f8;r7 0;", "  f 4  ; a 1 3 9 ;  ", "f2;r0 1;a0 1 1;p9 2 2 1;", "r3 0;r0 3;r3 0;"};
        int[] items = {0, 0, 1, 2, 2, 4, 3};
        for (int i = 0; i < right.length; i++) {
            ChronicleWar war = new ChronicleWar();
            Due.type(war, right[i]);
            Due.is("land() of \"" + right[i] + "\"", war.land(), items[i]);
        }
        fault("f1;", 1);
        fault("f9;", 1);
        fault("f0;", 1);
        fault("f4;f4;", 3);
        fault("r0 1;f4;", 5);
        fault("f99;", 1);
        fault("f100;", 1);
        fault("f99999999999999999999;", 1);
        fault("f04;", 1);
        fault("f00;", 1);
        fault("f4294967300;", 1);
        fault("f", 1);
        fault("f ", 2);
        fault("f4", 2);
        fault("f4  ", 4);
        fault("f;", 1);
        fault("ff", 1);
        fault("f4 4;", 3);
        fault(";", 0);
        fault("  ;", 2);
        fault("4;", 0);
        fault("f4;;", 3);
        fault("f4x;", 2);
        fault("f9x;", 1);
        fault("F4;", 0);
        fault("f4;\t", 3);
        fault("f4;\u00ff", 3);
        fault("f4;\u0000", 3);
        fault("f-4;", 1);
        fault("r0;", 2);
        fault("r0 0;x", 3);
        fault("r01;", 1);
        fault("r0 00;", 3);
        fault("r4 0;", 1);
        fault("r0 4;", 3);
        fault("f2;r0 2;", 6);
        fault("f2;r2 0;", 4);
        fault("r0 1 2;", 5);
        fault("r0 1", 4);
        fault("a2 0 1;", 1);
        fault("a0 4 1;", 3);
        fault("a0 0 0;", 5);
        fault("a0 0 10;", 5);
        fault("a0 0;", 4);
        fault("a0 0 1 1;", 7);
        fault("f8;a1 8 1;", 6);
        fault("p0 0 0 0;", 1);
        fault("p10 0 0 0;", 1);
        fault("p1 3 0 0;", 3);
        fault("p1 0 3 0;", 5);
        fault("p1 0 0 4;", 7);
        fault("p1 0 2 4;", 7);
        fault("p1 0 0;", 6);
        fault("p1 0 0 0 0;", 9);
        fault("p1 0 0 r;", 7);
    }

    private static void faultsOfSevenths() {
        String armies = "a0 0 1;".repeat(6);
        String pages = "p1 0 0 0;".repeat(6);
        Due.is("count(1) of six", Due.told(armies).count(1), 6);
        Due.is("count(2) of six", Due.told(pages).count(2), 6);
        fault(armies + "a0 0 1;", 42);
        fault(armies + "  a", 44);
        fault(pages + "p1 0 0 0;", 54);
        fault(armies + pages + "p", 96);
    }

    private static void refusedLandChangesNothing() {
        ChronicleWar war = Due.told("f3;r0 1;a0 0 5;p2 0 0 1;");
        war.orders(0, 2);
        war.day();
        war.keep(1);
        Due.type(war, "f2;r0 1;a1 0 5;p1 0 0 1;x");
        Due.is("land() refused", war.land(), -10 - 24);
        Due.is("count(0)", war.count(0), 3);
        Due.is("count(1)", war.count(1), 1);
        Due.is("count(2)", war.count(2), 1);
        Due.is("count(3)", war.count(3), 25);
        Due.is("army(0, 0)", war.army(0, 0), 0);
        Due.is("army(0, 1)", war.army(0, 1), 1);
        Due.is("page(0, 0)", war.page(0, 0), 2);
        Due.is("now(0)", war.now(0), 2);
        Due.is("now(5)", war.now(5), 2);
        Due.is("written(1, 0)", war.written(1, 0), 1);
        Due.is("back(1)", war.back(1), 2);
    }

    private static void roads() {
        ChronicleWar war = Due.told("f5;r0 1;r1 2;r4 0;");
        int[] due = {18, 5, 2, 0, 1};
        for (int f = 0; f < 5; f++) {
            Due.is("roads(" + f + ")", war.roads(f), due[f]);
        }
        Due.is("roads(5)", war.roads(5), ChronicleWar.BAD);
        Due.is("roads(-1)", war.roads(-1), ChronicleWar.BAD);
        Due.is("roads(MAX)", war.roads(Integer.MAX_VALUE), ChronicleWar.BAD);
    }

    private static void armies() {
        ChronicleWar war = Due.told("a1 3 9;a0 2 1;");
        int[] due = {1, 3, 9, 0, 2, 1};
        for (int i = 0; i < 6; i++) {
            Due.is("army(" + i / 3 + ", " + i % 3 + ")", war.army(i / 3, i % 3), due[i]);
        }
        Due.is("army(2, 0)", war.army(2, 0), ChronicleWar.BAD);
        Due.is("army(-1, 0)", war.army(-1, 0), ChronicleWar.BAD);
        Due.is("army(0, 3)", war.army(0, 3), ChronicleWar.BAD);
        Due.is("army(0, -1)", war.army(0, -1), ChronicleWar.BAD);
    }

    private static void pages() {
        ChronicleWar war = Due.told("p9 2 1 3;p1 0 2 0;");
        int[] due = {9, 2, 1, 3, 0, 1, 0, 2, 0, 0};
        for (int i = 0; i < 10; i++) {
            Due.is("page(" + i / 5 + ", " + i % 5 + ")", war.page(i / 5, i % 5), due[i]);
        }
        Due.is("page(2, 0)", war.page(2, 0), ChronicleWar.BAD);
        Due.is("page(-1, 0)", war.page(-1, 0), ChronicleWar.BAD);
        Due.is("page(0, 5)", war.page(0, 5), ChronicleWar.BAD);
        Due.is("page(0, -1)", war.page(0, -1), ChronicleWar.BAD);
    }

    /** DUKE 0 marches to 1 and fights there, DUKE 1 rests. */
    private static void pageStates() {
        ChronicleWar war = Due.told("r0 1;r0 2;a0 0 5;a1 1 3;p1 0 0 1;p1 1 0 1;p1 2 0 1;p1 0 0 2;p1 2 0 2;p2 2 2 0;");
        for (int k = 0; k < 6; k++) {
            Due.is("open: page(" + k + ", 4)", war.page(k, 4), 0);
        }
        war.orders(0, 2);
        war.day();
        int[] marches = {1, 2, 1, 2, 2, 0};
        for (int k = 0; k < 6; k++) {
            Due.is("marches: page(" + k + ", 4)", war.page(k, 4), marches[k]);
        }
        war = Due.told("r0 1;r0 2;a0 0 5;a1 1 3;p1 0 1 1;p1 1 1 1;p1 2 1 1;p1 0 1 2;p1 2 1 2;p2 0 1 1;");
        war.orders(0, 2);
        war.day();
        int[] fights = {1, 1, 1, 2, 2, 0};
        for (int k = 0; k < 6; k++) {
            Due.is("fights: page(" + k + ", 4)", war.page(k, 4), fights[k]);
        }
        war = Due.told("r0 1;r1 2;a0 0 5;a1 2 3;p1 0 2 3;p1 1 2 3;p1 2 2 3;p2 2 2 3;p3 2 2 3;p9 0 2 0;");
        war.orders(0, 2);
        war.day();
        war.orders(0, 1);
        war.orders(1, 10);
        war.day();
        war.day();
        int[] rests = {2, 1, 1, 2, 1, 0};
        for (int k = 0; k < 6; k++) {
            Due.is("rests: page(" + k + ", 4)", war.page(k, 4), rests[k]);
        }
        Due.days(war, 5);
        Due.is("day 9: page(5, 4)", war.page(5, 4), 0);
        war.day();
        Due.is("over: page(5, 4)", war.page(5, 4), 1);
    }

    private static void nowAsks() {
        ChronicleWar war = Due.told("r0 1;a0 0 5;a1 1 3;a0 0 2;");
        war.orders(0, 18);
        war.orders(1, 9);
        int[] due = {1, 18, 9, 7, 3, 2};
        for (int what = 0; what < 6; what++) {
            Due.is("now(" + what + ")", war.now(what), due[what]);
        }
        Due.is("now(-1)", war.now(-1), ChronicleWar.BAD);
        Due.is("now(6)", war.now(6), ChronicleWar.BAD);
    }

    private static void written() {
        ChronicleWar war = Due.told("r0 1;r1 2;a0 0 5;a1 2 3;");
        Due.is("written(1, 0) on day 1", war.written(1, 0), ChronicleWar.NO);
        war.orders(0, 2);
        war.orders(1, 10);
        war.day();
        Due.is("written(1, 0)", war.written(1, 0), 1);
        Due.is("written(1, 1)", war.written(1, 1), 1);
        Due.is("written(1, 2)", war.written(1, 2), 2);
        war.orders(0, 1);
        war.day();
        Due.is("written(2, 0)", war.written(2, 0), 0);
        Due.is("written(2, 1)", war.written(2, 1), ChronicleWar.NONE);
        Due.is("written(2, 2)", war.written(2, 2), 0);
        Due.is("written(1, 2) again", war.written(1, 2), 2);
        Due.is("written(3, 0)", war.written(3, 0), ChronicleWar.NO);
        Due.is("written(0, 0)", war.written(0, 0), ChronicleWar.NO);
        Due.is("written(-1, 0)", war.written(-1, 0), ChronicleWar.NO);
        Due.is("written(1, 3)", war.written(1, 3), ChronicleWar.NO);
        Due.is("written(1, -1)", war.written(1, -1), ChronicleWar.NO);
        Due.days(war, 6);
        war.orders(0, 2);
        Due.is("written(9, 0) on day 9", war.written(9, 0), ChronicleWar.NO);
        war.day();
        Due.is("written(9, 0)", war.written(9, 0), 1);
        Due.is("written(9, 1)", war.written(9, 1), ChronicleWar.NONE);
        Due.is("written(10, 0)", war.written(10, 0), ChronicleWar.NO);
    }

    private static void counts() {
        ChronicleWar war = Due.told("f7;a0 0 1;a1 0 1;p1 0 0 0;p1 0 0 0;p1 0 0 0;");
        war.type(0);
        int[] due = {7, 2, 3, 1};
        for (int what = 0; what < 4; what++) {
            Due.is("count(" + what + ")", war.count(what), due[what]);
        }
        war.day();
        Due.is("count(1) with ARMIES that are gone", war.count(1), 2);
        Due.is("count(4)", war.count(4), ChronicleWar.BAD);
        Due.is("count(-1)", war.count(-1), ChronicleWar.BAD);
    }
}
