/** Boundary cases of RATES, of THE TRACE and of IMAGES: promises 22 to 24 and 26. */
final class KindsEdges {
    private static final long[] TRACES = {1, 11, 101, 1011, 10101, 100001};

    private KindsEdges() {
    }

    static void all() {
        rateRefused();
        rates();
        ratesOfOneThatIsGone();
        eachOnce();
        traceAlone();
        keepRefused();
        backRefused();
        keepKeepsNow();
        keepKeepsEachDayWrittenDown();
        imagesAreTwo();
        imageKeptAgain();
        nothingElse();
        nothingUndoneBehindBack();
        imagesAtTheEnd();
        imagesOfNone();
    }

    private static void rateRefused() {
        Edge.sentence("RATE. NO: BAD.", 22);
        Edge.range("rate(#, 0)", 0, 5, Edge.NO, Wars::busy, (war, kind) -> war.rate(kind, 0));
        Edge.range("rate(#, 3)", 0, 5, Edge.NO, Wars::over, (war, kind) -> war.rate(kind, 3));
        for (int kind = 0; kind <= 5; kind++) {
            int asked = kind;
            Edge.range("rate(" + kind + ", #)", 0, 3, Edge.NO, Wars::busy, (war, a) -> war.rate(asked, a));
            Edge.changesNothing("new: rate(" + kind + ", 0)", Wars::fresh, war -> war.rate(asked, 0), Edge.NO);
        }
        for (int many = 1; many <= 6; many++) {
            String text = Wars.armies(many, 9);
            Edge.range("of " + many + ": rate(4, #)", 0, many - 1, Edge.NO, () -> Due.told(text), (war, a) -> war.rate(4, a));
        }
    }

    private static void rateIs(String call, ChronicleWar war, int a, int... due) {
        for (int kind = 0; kind <= 5; kind++) {
            Edge.is(call + " rate(" + kind + ", " + a + ")", war.rate(kind, a), due[kind]);
        }
    }

    private static void rates() {
        Edge.sentence("TROOP its TROOPS (1). ARCHERS up, and its FIELD (10). SIEGE up less how many ROADS lead from there (100). MARGINAL ARCHERS twice up (1000). BAGGAGE up, and its number (10000). MARSHAL up, and THE DAY (100000).", 22);
        rateIs("the least:", Due.told("f8;" + Wars.allRoads(8) + "a0 0 1;"), 0, 1, 1, -6, 2, -6, 2);
        ChronicleWar war = Due.told("f8;" + Wars.armies(5, 1) + "a1 7 9;");
        rateIs("without ROADS:", war, 5, 9, 16, 9, 32, 14, 10);
        rateIs("the first:", war, 0, 1, 1, 1, 2, 1, 2);
        Due.days(war, 8);
        Edge.is("DAY 9: rate(5, 5)", war.rate(5, 5), 18);
        war.day();
        Edge.is("DAY 10: rate(5, 5)", war.rate(5, 5), 19);
    }

    private static void ratesOfOneThatIsGone() {
        Edge.sentence("TROOP its TROOPS (1).", 22);
        ChronicleWar war = Wars.dayOf("r0 3;a0 0 4;a1 3 4;", 4, 0);
        rateIs("gone:", war, 0, 0, 3, -1, 6, -1, 2);
        rateIs("gone:", war, 1, 0, 3, -1, 6, 0, 2);
    }

    private static void eachOnce() {
        Edge.sentence("as often as rate() asks that body: each once", 22, 26);
        for (int kind = 0; kind <= 5; kind++) {
            ChronicleWar war = Wars.busy();
            long before = war.trace();
            war.rate(kind, 1);
            Edge.is("trace() behind rate(" + kind + ", 1)", war.trace() - before, TRACES[kind]);
            for (int times = 2; times <= 200; times++) {
                war.rate(kind, 0);
            }
            Edge.is("trace() behind 200 of rate(" + kind + ", ..)", war.trace() - before, 200 * TRACES[kind]);
        }
    }

    private static void traceAlone() {
        Edge.sentence("THE TRACE.", 26);
        Edge.changesNothing("new: trace()", Wars::fresh, war -> war.trace(), 0);
        Edge.changesNothing("trace()", Wars::busy, war -> war.trace(), 1011);
        ChronicleWar war = Wars.busy();
        war.best(0, 2, 0);
        war.dutiful(0, -1);
        war.day();
        war.undo();
        war.march(0, 0);
        war.army(0, 2);
        Edge.is("trace() behind calls that are not rate()", war.trace(), 1011);
    }

    private static void keepRefused() {
        Edge.sentence("An IMAGE is kept: THE DAY. BAD.", 23);
        Edge.range("keep(#)", 0, 1, Edge.BAD, Wars::busy, (war, image) -> war.keep(image));
        Edge.range("new: keep(#)", 0, 1, Edge.BAD, Wars::fresh, (war, image) -> war.keep(image));
        for (int today = 1; today <= 10; today++) {
            ChronicleWar war = new ChronicleWar();
            Due.days(war, today - 1);
            Edge.is("keep(0)", war.keep(0), today);
            Edge.is("keep(1)", war.keep(1), today);
        }
    }

    private static void backRefused() {
        Edge.sentence("All of that becomes as an IMAGE has it: THE DAY. BAD; STATE: none was kept.", 24);
        Edge.range("back(#)", 0, 1, Edge.BAD, Wars::busy, (war, image) -> war.back(image));
        Edge.range("none kept: back(#)", 0, 1, Edge.BAD, Wars::fresh, (war, image) -> war.back(image));
        Edge.changesNothing("none kept: back(0)", KindsEdges::oneDay, war -> war.back(0), Edge.STATE);
        Edge.changesNothing("none kept: back(1)", KindsEdges::oneDay, war -> war.back(1), Edge.STATE);
        ChronicleWar war = oneDay();
        war.keep(0);
        Edge.is("the other one kept: back(1)", war.back(1), Edge.STATE);
        Edge.is("it kept: back(0)", war.back(0), 2);
        war = oneDay();
        war.keep(1);
        Edge.is("the other one kept: back(0)", war.back(0), Edge.STATE);
        Edge.is("it kept: back(1)", war.back(1), 2);
    }

    /** DAY 2, with a step that may be UNDONE. */
    private static ChronicleWar oneDay() {
        return Wars.dayOf("r0 1;r1 2;a0 0 5;a1 2 3;p1 0 0 1;", 2, 10);
    }

    private static void keepKeepsNow() {
        Edge.sentence("IMAGES 0, 1 keep NOW (THE DAY, ARMIES, ORDERS, PAGES, what is WRITTEN DOWN)", 23, 24);
        for (int image = 0; image <= 1; image++) {
            ChronicleWar war = oneDay();
            war.orders(0, 1);
            war.keep(image);
            int[] due = {2, 1, 0, 2, 0, 1, 1, 2, 1, 1, 1, 0, 1};
            war.orders(0, 3);
            war.strikes(0);
            war.writes(9, 2, 2, 3);
            war.writes(8, 2, 2, 3);
            Due.days(war, 8);
            Edge.is("back(" + image + ")", war.back(image), 2);
            int[] got = {war.now(0), war.now(1), war.now(2), war.now(3), war.now(4), war.written(1, 0), war.written(1, 1),
                war.written(1, 2), war.count(2), war.page(0, 4), war.army(0, 1), war.army(1, 2), war.page(0, 3)};
            for (int i = 0; i < due.length; i++) {
                Edge.is("behind back(" + image + "), number " + i, got[i], due[i]);
            }
            Edge.is("written(2, 0)", war.written(2, 0), Edge.NO);
        }
        Edge.changesNothing("keep(0), back(0)", KindsEdges::keptJustNow, war -> {
            war.keep(0);
            return war.back(0);
        }, 2);
    }

    /** DUKE 0 fights on DAYS 1 to 4 and on DAY 9; DUKE 1 goes to and fro until DAY 8. */
    private static int[] eventful(int d) {
        int goal0 = d <= 4 ? d : d == 9 ? 5 : Edge.NONE;
        int goal1 = d == 9 ? Edge.NONE : d % 2 == 1 ? 0 : 5;
        return new int[] {goal0, goal1, goal0 == Edge.NONE ? 0 : 1 << goal0};
    }

    private static void keepKeepsEachDayWrittenDown() {
        Edge.sentence("ORDERS, PAGES, what is WRITTEN DOWN)", 23, 24);
        ChronicleWar war = Due.told("f6;" + Wars.allRoads(6) + "a0 0 9;a1 1 1;a1 2 1;a1 3 1;a1 4 1;a1 5 1;");
        war.keep(1);
        for (int d = 1; d <= 9; d++) {
            int[] goals = eventful(d);
            war.orders(0, goals[0] == Edge.NONE ? 0 : goals[0] + 1);
            war.orders(1, goals[1] == Edge.NONE ? 0 : 8 * 5 + goals[1] + 1);
            war.day();
        }
        Edge.is("keep(0)", war.keep(0), 10);
        Edge.is("back(1)", war.back(1), 1);
        Due.days(war, 9);
        for (int d = 1; d <= 9; d++) {
            Edge.is("otherwise: written(" + d + ", 0)", war.written(d, 0), Edge.NONE);
            Edge.is("otherwise: written(" + d + ", 1)", war.written(d, 1), Edge.NONE);
            Edge.is("otherwise: written(" + d + ", 2)", war.written(d, 2), 0);
        }
        Edge.is("back(0)", war.back(0), 10);
        for (int d = 1; d <= 9; d++) {
            for (int what = 0; what < 3; what++) {
                Edge.is("as kept: written(" + d + ", " + what + ")", war.written(d, what), eventful(d)[what]);
            }
        }
    }

    private static ChronicleWar keptJustNow() {
        ChronicleWar war = oneDay();
        war.keep(0);
        war.back(0);
        return war;
    }

    private static void imagesAreTwo() {
        Edge.sentence("IMAGES 0, 1 keep NOW", 23, 24);
        ChronicleWar war = new ChronicleWar();
        war.day();
        Edge.is("keep(0)", war.keep(0), 2);
        war.day();
        Edge.is("keep(1)", war.keep(1), 3);
        war.day();
        Edge.is("back(0)", war.back(0), 2);
        Edge.is("back(1)", war.back(1), 3);
        Edge.is("back(0) again", war.back(0), 2);
        Due.days(war, 4);
        Edge.is("now(0)", war.now(0), 6);
        Edge.is("back(0) behind more DAYS", war.back(0), 2);
        Edge.is("back(1) as it was kept", war.back(1), 3);
    }

    private static void imageKeptAgain() {
        Edge.sentence("An IMAGE is kept: THE DAY.", 23);
        ChronicleWar war = new ChronicleWar();
        Edge.is("keep(0)", war.keep(0), 1);
        war.day();
        Edge.is("keep(0) again", war.keep(0), 2);
        war.day();
        Edge.is("back(0) to the later one", war.back(0), 2);
        Edge.is("back(1)", war.back(1), Edge.STATE);
    }

    private static void nothingElse() {
        Edge.sentence("what is WRITTEN DOWN); nothing else", 23, 24);
        ChronicleWar war = Wars.busy();
        Edge.is("keep(0)", war.keep(0), 2);
        Edge.is("now(5) behind keep()", war.now(5), 10);
        Edge.is("undo() behind keep()", war.undo(), 9);
        war.type('x');
        war.rate(0, 0);
        int letters = war.count(3);
        Edge.is("back(0)", war.back(0), 2);
        Edge.is("count(3) behind back()", war.count(3), letters);
        Edge.is("trace() behind back()", war.trace(), 1012);
        Edge.is("the other IMAGE: back(1)", war.back(1), 2);
        Edge.is("the other IMAGE: now(1)", war.now(1), 0);
        Edge.is("roads(0)", war.roads(0), 130);
        Edge.is("count(0)", war.count(0), 8);
    }

    private static void nothingUndoneBehindBack() {
        Edge.sentence("(nothing can be UNDONE behind back())", 14, 24);
        ChronicleWar war = Wars.busy();
        Edge.is("now(5)", war.now(5), 10);
        war.back(1);
        Edge.is("now(5) behind back()", war.now(5), 0);
        Edge.is("undo() behind back()", war.undo(), Edge.STATE);
        war.orders(0, 0);
        Edge.is("now(5) behind one step", war.now(5), 1);
        Edge.is("undo() of it", war.undo(), 0);
        Edge.is("undo() of none", war.undo(), Edge.STATE);
        war = Wars.busy();
        war.back(2);
        Edge.is("now(5) behind back() that was refused", war.now(5), 10);
        war = oneDay();
        war.back(0);
        Edge.is("now(5) behind back() of none kept", war.now(5), 3);
    }

    private static void imagesAtTheEnd() {
        Edge.sentence("All of that becomes as an IMAGE has it: THE DAY.", 24);
        ChronicleWar war = Wars.over();
        Edge.is("over: keep(0)", war.keep(0), 10);
        Edge.is("over: back(1)", war.back(1), 2);
        Edge.is("day() goes on", war.day() >= 0 ? 1 : 0, 1);
        Edge.is("back(0) to the end", war.back(0), 10);
        Edge.is("day()", war.day(), Edge.STATE);
        Edge.is("undo()", war.undo(), Edge.STATE);
        Edge.is("written(9, 0)", war.written(9, 0), Edge.NONE);
    }

    private static void imagesOfNone() {
        Edge.sentence("All of that becomes as an IMAGE has it: THE DAY.", 24);
        ChronicleWar war = new ChronicleWar();
        war.keep(1);
        for (int k = 1; k <= 6; k++) {
            war.writes(k, 2, 0, 0);
        }
        Edge.is("back(1)", war.back(1), 1);
        Edge.is("count(2)", war.count(2), 0);
        Edge.is("page(0, 0)", war.page(0, 0), Edge.BAD);
        Edge.is("whether all is as in a new one", Seen.of(war).equals(Seen.of(Wars.fresh())) ? 1 : 0, 1);
    }
}
