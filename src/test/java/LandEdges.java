/** Boundary cases of what is asked of the land: promises 1, 5 to 9 and 25. */
final class LandEdges {
    private LandEdges() {
    }

    static void all() {
        newObject();
        roads();
        armies();
        armiesGone();
        pages();
        openOrOver();
        himOrHim();
        fieldOfOneWhoRests();
        now();
        nowOfTroops();
        written();
        writtenFields();
        count();
        lastCall();
    }

    private static void newObject() {
        Edge.sentence("As told; four FIELDS, no ARMIES.", 1);
        ChronicleWar war = new ChronicleWar();
        int[] count = {4, 0, 0, 0};
        for (int what = 0; what < 4; what++) {
            Edge.is("count(" + what + ")", war.count(what), count[what]);
        }
        for (int f = 0; f < 4; f++) {
            Edge.is("roads(" + f + ")", war.roads(f), 0);
        }
        Edge.is("roads(4)", war.roads(4), Edge.BAD);
        Edge.is("army(0, 0)", war.army(0, 0), Edge.BAD);
        Edge.is("page(0, 0)", war.page(0, 0), Edge.BAD);
        Edge.is("written(1, 0)", war.written(1, 0), Edge.NO);
        Edge.is("now(3)", war.now(3), 0);
        Edge.is("now(4)", war.now(4), 0);
        Edge.is("now(5)", war.now(5), 0);
        Edge.is("back(0)", war.back(0), Edge.STATE);
        Edge.is("back(1)", war.back(1), Edge.STATE);
        Edge.sentence("THE DAY (1 at first; 10: the war is over).", 1, 8);
        Edge.is("now(0)", war.now(0), 1);
        Edge.sentence("or none (at first).", 1, 8);
        Edge.is("now(1)", war.now(1), 0);
        Edge.is("now(2)", war.now(2), 0);
        Edge.sentence("are added to THE TRACE, 0 at first", 1, 26);
        Edge.is("trace()", war.trace(), 0);
    }

    private static void roads() {
        Edge.sentence("FIELDS to which ROADS lead from one, as bits. BAD.", 5);
        Edge.range("new: roads(#)", 0, 3, Edge.BAD, Wars::fresh, (war, f) -> war.roads(f));
        Edge.range("roads(#)", 0, 7, Edge.BAD, Wars::busy, (war, f) -> war.roads(f));
        for (int n = 2; n <= 8; n++) {
            ChronicleWar none = Due.told("f" + n + ";");
            ChronicleWar every = Due.told("f" + n + ";" + Wars.allRoads(n));
            ChronicleWar one = Due.told("f" + n + ";r" + (n - 1) + " 0;");
            for (int f = 0; f < n; f++) {
                Edge.is("without ROADS: roads(" + f + ")", none.roads(f), 0);
                Edge.is("with all of " + n + ": roads(" + f + ")", every.roads(f), (1 << n) - 1 - (1 << f));
                Edge.is("with one of " + n + ": roads(" + f + ")", one.roads(f), f == 0 ? 1 << n - 1 : f == n - 1 ? 1 : 0);
            }
        }
    }

    private static void armies() {
        Edge.sentence("Of an ARMY: 0 its DUKE, 1 its FIELD, 2 TROOPS (0: gone). BAD.", 6);
        for (int many = 1; many <= 6; many++) {
            String text = Wars.armies(many, 9);
            Edge.range("of " + many + ": army(#, 2)", 0, many - 1, Edge.BAD, () -> Due.told(text), (war, a) -> war.army(a, 2));
        }
        Edge.changesNothing("of none: army(0, 0)", Wars::fresh, war -> war.army(0, 0), Edge.BAD);
        Edge.changesNothing("of none: army(-1, 0)", Wars::fresh, war -> war.army(-1, 0), Edge.BAD);
        Edge.range("army(0, #)", 0, 2, Edge.BAD, Wars::busy, (war, what) -> war.army(0, what));
        Edge.range("army(3, #)", 0, 2, Edge.BAD, Wars::busy, (war, what) -> war.army(3, what));
        ChronicleWar war = Due.told("f8;a0 0 1;" + "a0 3 5;".repeat(4) + "a1 7 9;");
        int[] first = {0, 0, 1};
        int[] last = {1, 7, 9};
        for (int what = 0; what < 3; what++) {
            Edge.is("army(0, " + what + ")", war.army(0, what), first[what]);
            Edge.is("army(5, " + what + ")", war.army(5, what), last[what]);
        }
    }

    private static void armiesGone() {
        Edge.sentence("2 TROOPS (0: gone).", 6);
        ChronicleWar war = Wars.dayOf("f8;r0 7;a0 0 1;a1 7 2;", 8, 0);
        Edge.is("gone: army(0, 0)", war.army(0, 0), 0);
        Edge.is("gone: army(0, 1)", war.army(0, 1), 7);
        Edge.is("gone: army(0, 2)", war.army(0, 2), 0);
        Edge.is("with one left: army(1, 2)", war.army(1, 2), 1);
        Edge.is("count(1)", war.count(1), 2);
    }

    private static void pages() {
        Edge.sentence("Of a PAGE: 0 DAY, 1 WHO, 2 WHAT, 3 the FIELD, 4 whether FULFILLED (1), BROKEN (2), OPEN (0). BAD.", 7);
        for (int many = 1; many <= 6; many++) {
            String text = Wars.pages(many);
            Edge.range("of " + many + ": page(#, 0)", 0, many - 1, Edge.BAD, () -> Due.told(text), (war, k) -> war.page(k, 0));
        }
        Edge.changesNothing("of none: page(0, 0)", Wars::fresh, war -> war.page(0, 0), Edge.BAD);
        Edge.changesNothing("of none: page(-1, 4)", Wars::fresh, war -> war.page(-1, 4), Edge.BAD);
        Edge.range("page(0, #)", 0, 4, Edge.BAD, Wars::busy, (war, what) -> war.page(0, what));
        Edge.range("page(5, #)", 0, 4, Edge.BAD, Wars::sixPages, (war, what) -> war.page(5, what));
        ChronicleWar war = Due.told("f8;p1 0 0 0;" + "p5 1 1 3;".repeat(4) + "p9 2 2 7;");
        int[] first = {1, 0, 0, 0, 0};
        int[] last = {9, 2, 2, 7, 0};
        for (int what = 0; what < 5; what++) {
            Edge.is("page(0, " + what + ")", war.page(0, what), first[what]);
            Edge.is("page(5, " + what + ")", war.page(5, what), last[what]);
        }
    }

    private static void openOrOver() {
        Edge.sentence("OPEN: its DAY is not over.", 7);
        for (int d = 1; d <= 9; d++) {
            ChronicleWar war = Due.told("p" + d + " 0 2 0;p" + d + " 0 0 0;");
            for (int today = 1; today <= 10; today++) {
                String when = "of DAY " + d + " on DAY " + today + ": ";
                Edge.is(when + "page(0, 4)", war.page(0, 4), today <= d ? 0 : 1);
                Edge.is(when + "page(1, 4)", war.page(1, 4), today <= d ? 0 : 2);
                war.day();
            }
        }
    }

    /** What PAGES of DUKE 0, of DUKE 1 and of him are, behind a DAY by these ORDERS. */
    private static void states(String page, int order0, int order1, int... due) {
        String land = "f8;r0 7;a0 0 1;a1 0 1;a0 7 2;a1 7 3;";
        String told = "";
        for (int x = 0; x <= 2; x++) {
            told += "p1 " + x + " " + page + ";";
        }
        ChronicleWar war = Wars.dayOf(land + told, order0, order1);
        for (int x = 0; x <= 2; x++) {
            Edge.is("ORDERS " + order0 + ", " + order1 + ": page of " + x + ": " + page, war.page(x, 4), due[x]);
        }
    }

    private static void himOrHim() {
        Edge.sentence("MARCHES: he marched to that FIELD; FIGHTS: they fought there (whoever he is); RESTS: he did not march (him: one of both did so); else BROKEN.", 7);
        int to7 = 8;
        int otherTo7 = 16;
        int to0 = 17;
        states("0 7", to7, otherTo7, 1, 1, 1);
        states("0 7", to7, 0, 1, 2, 1);
        states("0 7", 0, otherTo7, 2, 1, 1);
        states("0 7", 0, 0, 2, 2, 2);
        states("0 7", to0, otherTo7, 2, 1, 1);
        states("0 0", to0, otherTo7, 1, 2, 1);
        states("0 0", 0, 0, 2, 2, 2);
        states("0 1", to7, otherTo7, 2, 2, 2);
        states("2 7", to7, otherTo7, 2, 2, 2);
        states("2 7", to7, 0, 2, 1, 1);
        states("2 7", 0, otherTo7, 1, 2, 1);
        states("2 7", 0, 0, 1, 1, 1);
        states("1 0", 0, 0, 1, 1, 1);
        states("1 0", to7, otherTo7, 2, 2, 2);
        states("1 0", to7, 0, 2, 2, 2);
        states("1 7", to7, 0, 1, 1, 1);
        states("1 7", to0, 0, 2, 2, 2);
        states("1 1", 0, 0, 2, 2, 2);
    }

    private static void fieldOfOneWhoRests() {
        Edge.sentence("2 RESTS (a FIELD is told, and means nothing).", 7);
        for (int f = 0; f < 4; f++) {
            states("2 " + f, 8, 0, 2, 1, 1);
            ChronicleWar war = Due.told("p1 0 2 " + f + ";");
            Edge.is("page(0, 3)", war.page(0, 3), f);
        }
    }

    private static void now() {
        Edge.sentence("0 THE DAY, 1, 2 ORDER of a DUKE 0, 1 (0: none), 3, 4 TROOPS of a DUKE 0, 1, 5 how many may be UNDONE. BAD.", 8);
        Edge.range("now(#)", 0, 5, Edge.BAD, Wars::busy, (war, what) -> war.now(what));
        Edge.range("over: now(#)", 0, 5, Edge.BAD, Wars::over, (war, what) -> war.now(what));
        ChronicleWar war = Due.told("f8;r0 7;r7 6;a0 7 1;" + "a0 1 1;".repeat(4) + "a1 6 1;");
        Edge.is("orders(0, 1), the first that there is", war.orders(0, 1), 1);
        Edge.is("now(1)", war.now(1), 1);
        Edge.is("now(2)", war.now(2), 0);
        Edge.is("orders(1, 48), the last that there is", war.orders(1, 48), 1);
        Edge.is("now(2)", war.now(2), 48);
        war.orders(0, 0);
        Edge.is("now(1) of none", war.now(1), 0);
        Edge.is("now(2) of the other one", war.now(2), 48);
    }

    private static void nowOfTroops() {
        Edge.sentence("3, 4 TROOPS of a DUKE 0, 1", 8);
        ChronicleWar war = Due.told(Wars.armies(6, 9));
        Edge.is("of six: now(3)", war.now(3), 54);
        Edge.is("of none: now(4)", war.now(4), 0);
        war = Due.told("a1 3 9;".repeat(6));
        Edge.is("of none: now(3)", war.now(3), 0);
        Edge.is("of six: now(4)", war.now(4), 54);
        war = Due.told("a0 0 3;a1 0 3;");
        war.day();
        Edge.is("of those gone: now(3)", war.now(3), 0);
        Edge.is("of those gone: now(4)", war.now(4), 0);
    }

    private static void written() {
        Edge.sentence("NO: BAD, or it did not go by.", 9);
        for (int today = 1; today <= 10; today++) {
            ChronicleWar war = new ChronicleWar();
            Due.days(war, today - 1);
            int[] days = {Edge.MIN, -1, 0, 1, 2, 3, 4, 5, 6, 7, 8, 9, 10, 11, Edge.MAX};
            for (int d : days) {
                boolean wentBy = d >= 1 && d < today;
                String call = "on DAY " + today + ": written(" + d;
                Edge.is(call + ", 0)", war.written(d, 0), wentBy ? Edge.NONE : Edge.NO);
                Edge.is(call + ", 1)", war.written(d, 1), wentBy ? Edge.NONE : Edge.NO);
                Edge.is(call + ", 2)", war.written(d, 2), wentBy ? 0 : Edge.NO);
            }
        }
        Edge.range("over: written(#, 0)", 1, 9, Edge.NO, Wars::over, (war, d) -> war.written(d, 0));
        Edge.range("written(#, 2)", 1, 1, Edge.NO, Wars::busy, (war, d) -> war.written(d, 2));
        Edge.range("written(1, #)", 0, 2, Edge.NO, Wars::busy, (war, what) -> war.written(1, what));
        Edge.range("over: written(9, #)", 0, 2, Edge.NO, Wars::over, (war, what) -> war.written(9, what));
    }

    private static void writtenFields() {
        Edge.sentence("Of a DAY (1 .. 9) that went by: 0, 1 where DUKE 0, 1 marched (NONE), 2 at which FIELDS they fought (bits).", 9);
        String land = "f8;r0 7;r7 6;a0 7 3;a1 7 9;a1 0 1;a0 0 1;";
        ChronicleWar war = Wars.dayOf(land, 1, 24);
        Edge.is("to FIELD 0: written(1, 0)", war.written(1, 0), 0);
        Edge.is("to FIELD 7: written(1, 1)", war.written(1, 1), 7);
        Edge.is("none alike: written(1, 2)", war.written(1, 2), 0);
        war = Due.told(land);
        war.day();
        Edge.is("none: written(1, 0)", war.written(1, 0), Edge.NONE);
        Edge.is("none: written(1, 1)", war.written(1, 1), Edge.NONE);
        Edge.is("at FIELDS 0 and 7: written(1, 2)", war.written(1, 2), 129);
        for (int d = 2; d <= 9; d++) {
            int goal = d % 2 == 0 ? 6 : 7;
            war.orders(1, 8 + goal + 1);
            war.day();
            Edge.is("written(" + d + ", 1)", war.written(d, 1), goal);
            Edge.is("written(" + d + ", 0)", war.written(d, 0), Edge.NONE);
            Edge.is("written(1, 2) as it was", war.written(1, 2), 129);
        }
    }

    private static void count() {
        Edge.sentence("0 FIELDS, 1 ARMIES, 2 PAGES, 3 letters of THE TEXT. BAD.", 25);
        Edge.range("count(#)", 0, 3, Edge.BAD, Wars::busy, (war, what) -> war.count(what));
        Edge.range("new: count(#)", 0, 3, Edge.BAD, Wars::fresh, (war, what) -> war.count(what));
        ChronicleWar war = Wars.longText();
        Edge.is("count(3) of 200", war.count(3), 200);
        war.type(32);
        Edge.is("count(3) behind one that is too much", war.count(3), 200);
        war = Due.told("f8;" + Wars.armies(6, 1) + Wars.pages(6));
        int[] full = {8, 6, 6, 0};
        for (int what = 0; what < 4; what++) {
            Edge.is("full: count(" + what + ")", war.count(what), full[what]);
        }
        war.writes(1, 0, 0, 0);
        Edge.is("count(2) behind one that is too much", war.count(2), 6);
        war = Due.told("f2;");
        int[] empty = {2, 0, 0, 0};
        for (int what = 0; what < 4; what++) {
            Edge.is("empty: count(" + what + ")", war.count(what), empty[what]);
        }
    }

    private static void lastCall() {
        Edge.sentence("An object is used for at most 512 calls after it has been made", 1);
        ChronicleWar war = new ChronicleWar();
        for (int call = 1; call <= 510; call++) {
            Edge.is("call " + call + ": orders(1, 0)", war.orders(1, 0), 1);
        }
        Edge.is("call 511: now(5)", war.now(5), 10);
        Edge.is("call 512: undo()", war.undo(), 9);
    }
}
