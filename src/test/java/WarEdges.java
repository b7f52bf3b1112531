/** Boundary cases of ORDERS, DAYS, PAGES written and struck, and of what is UNDONE: promises 10 to 14. */
final class WarEdges {
    private WarEdges() {
    }

    static void all() {
        ordersByNumbers();
        ordersOfOthers();
        ordersWithTroops();
        ordersByRoads();
        ordersRefused();
        marchAtOnce();
        marchedAndStill();
        battlesMoreOrLess();
        battlesByNumbers();
        battlesOfMany();
        battlesFieldByField();
        noTroopsNoFight();
        dayEnds();
        dayRefused();
        writes();
        writesOfTheDay();
        writesFull();
        writesRefusedInOrder();
        strikes();
        strikesCloseUp();
        strikesAtAnyTime();
        undoOfEach();
        undoneOnlyThese();
        undoTen();
        undoOfManyMore();
        undoAtTheEnd();
        undoRefused();
    }

    /** Just these ORDERS are ones of the DUKE, of all numbers that could be. */
    private static void ordersAre(String text, int x, int... due) {
        for (int order = -9; order <= 70; order++) {
            boolean isOne = false;
            for (int d : due) {
                isOne |= d == order;
            }
            Edge.is(text + " orders(" + x + ", " + order + ")", Due.told(text).orders(x, order), isOne ? 1 : Edge.BAD);
        }
    }

    private static void ordersByNumbers() {
        Edge.sentence("numbers: 0 none, else 8 times the ARMY, the FIELD and 1.", 10);
        ordersAre("", 0, 0);
        ordersAre("f8;r0 7;a0 7 1;a0 0 1;", 0, 0, 1, 16);
        ordersAre("f8;r6 7;" + "a1 0 1;".repeat(5) + "a0 6 1;", 0, 0, 48);
        ordersAre("f8;r0 7;" + "a1 1 1;".repeat(5) + "a0 7 1;", 0, 0, 41);
        ordersAre("f2;r0 1;a1 0 1;a1 1 1;", 1, 0, 2, 9);
        String every = "f8;" + Wars.allRoads(8) + Wars.armies(6, 1);
        int[] all = new int[43];
        for (int i = 0; i < 42; i++) {
            all[i + 1] = i / 7 * 8 + i % 7 + 2;
        }
        ordersAre(every, 0, all);
    }

    private static void ordersOfOthers() {
        Edge.sentence("BAD (not one of that DUKE's for THE DAY, too); STATE: the war is over.", 10);
        ordersAre("f8;r0 1;a0 0 1;a1 0 1;", 0, 0, 2);
        ordersAre("f8;r0 1;a0 0 1;a1 0 1;", 1, 0, 10);
        Edge.range("orders(#, 0)", 0, 1, Edge.BAD, Wars::busy, (war, x) -> war.orders(x, 0));
        int[] bad = {Edge.MIN, -1, 2, 9, 48, 49, 65, Edge.MAX};
        for (int order : bad) {
            Edge.changesNothing("orders(0, " + order + ")", Wars::busy, war -> war.orders(0, order), Edge.BAD);
            Edge.changesNothing("orders(1, " + order + ")", Wars::busy, war -> war.orders(1, order), Edge.BAD);
        }
    }

    private static void ordersWithTroops() {
        Edge.sentence("that one of his ARMIES with TROOPS marches by a ROAD to a FIELD", 10);
        ChronicleWar war = Due.told("r0 1;a0 0 2;a1 0 3;a0 0 1;a0 0 1;");
        war.day();
        Edge.is("gone: army(0, 2)", war.army(0, 2), 0);
        Edge.is("gone: orders(0, 2)", war.orders(0, 2), Edge.BAD);
        Edge.is("gone: orders(1, 10)", war.orders(1, 10), Edge.BAD);
        Edge.is("gone: orders(0, 18)", war.orders(0, 18), Edge.BAD);
        Edge.is("one left: orders(0, 26)", war.orders(0, 26), 1);
    }

    private static void ordersByRoads() {
        Edge.sentence("marches by a ROAD to a FIELD", 10);
        ordersAre("f2;a0 0 1;", 0, 0);
        ordersAre("f3;r0 1;r1 2;a0 0 1;", 0, 0, 2);
        ordersAre("f3;r0 1;r1 2;a0 1 1;", 0, 0, 1, 3);
        ordersAre("f8;r6 7;a0 7 1;", 0, 0, 7);
        ChronicleWar war = Wars.dayOf("f3;r0 1;r1 2;a0 0 1;", 2, 0);
        Edge.is("orders(0, 3) from where it is now", war.orders(0, 3), 1);
        Edge.is("orders(0, 2) to where it is now", war.orders(0, 2), Edge.BAD);
    }

    private static void ordersRefused() {
        Edge.sentence("Refused, and nothing changes, the first of these: BAD (a number is not as told, or there is no such thing), STATE (as told), FULL.", 10);
        Edge.changesNothing("over: orders(0, 0)", Wars::over, war -> war.orders(0, 0), Edge.STATE);
        Edge.changesNothing("over: orders(1, 0)", Wars::over, war -> war.orders(1, 0), Edge.STATE);
        Edge.changesNothing("over: orders(2, 0)", Wars::over, war -> war.orders(2, 0), Edge.BAD);
        Edge.changesNothing("over: orders(-1, 0)", Wars::over, war -> war.orders(-1, 0), Edge.BAD);
        Edge.changesNothing("over: orders(0, -1)", Wars::over, war -> war.orders(0, -1), Edge.BAD);
        Edge.changesNothing("over: orders(0, 49)", Wars::over, war -> war.orders(0, 49), Edge.BAD);
        ChronicleWar war = Due.told("r0 1;a0 0 1;");
        Due.days(war, 8);
        Edge.is("DAY 9: orders(0, 2)", war.orders(0, 2), 1);
        war.undo();
        war.day();
        Edge.is("DAY 10: orders(0, 2)", war.orders(0, 2), Edge.STATE);
    }

    private static void marchAtOnce() {
        Edge.sentence("A DAY goes by: both march at once.", 11);
        ChronicleWar war = Wars.dayOf("f2;r0 1;a0 0 5;a1 1 3;", 2, 9);
        Edge.is("past one another: written(1, 2)", war.written(1, 2), 0);
        Edge.is("army(0, 1)", war.army(0, 1), 1);
        Edge.is("army(1, 1)", war.army(1, 1), 0);
        war = Wars.dayOf("f2;r0 1;a0 0 5;a1 0 3;", 2, 0);
        Edge.is("away from the other one: written(1, 2)", war.written(1, 2), 0);
        war = Wars.dayOf("f2;r0 1;a0 0 5;a1 0 3;", 2, 10);
        Edge.is("both to one FIELD: written(1, 2)", war.written(1, 2), 2);
    }

    private static void marchedAndStill() {
        Edge.sentence("Each DUKE has an ORDER for it", 10, 11);
        ChronicleWar war = Due.told("f3;r0 1;r0 2;a0 0 5;a0 0 4;");
        war.orders(0, 2);
        war.orders(0, 11);
        war.day();
        Edge.is("told otherwise: army(0, 1)", war.army(0, 1), 0);
        Edge.is("told last: army(1, 1)", war.army(1, 1), 2);
        Edge.is("written(1, 0)", war.written(1, 0), 2);
    }

    /** So many of DUKE 0 against so many of DUKE 1: what is left. */
    private static void fight(int mine, int others, int left, int leftOther) {
        ChronicleWar war = Due.told("a0 3 " + mine + ";a1 3 " + others + ";");
        String who = mine + " against " + others + ": ";
        Edge.is(who + "day()", war.day(), 1);
        Edge.is(who + "army(0, 2)", war.army(0, 2), left);
        Edge.is(who + "army(1, 2)", war.army(1, 2), leftOther);
    }

    private static void battlesMoreOrLess() {
        Edge.sentence("who has more there in all loses as many as the other one has", 11);
        Edge.sentence("the other one loses all (both all, if they are alike).", 11);
        for (int mine = 1; mine <= 9; mine++) {
            for (int others = 1; others <= 9; others++) {
                fight(mine, others, Math.max(mine - others, 0), Math.max(others - mine, 0));
            }
        }
    }

    private static void left(String text, int... due) {
        ChronicleWar war = Due.told(text);
        war.day();
        for (int a = 0; a < due.length; a++) {
            Edge.is(text + " army(" + a + ", 2)", war.army(a, 2), due[a]);
        }
    }

    private static void battlesByNumbers() {
        Edge.sentence("his ARMIES by numbers, each as far as it goes", 11);
        left("a0 0 3;a0 0 3;a0 0 3;a1 0 2;", 1, 3, 3, 0);
        left("a0 0 3;a0 0 3;a0 0 3;a1 0 3;", 0, 3, 3, 0);
        left("a0 0 3;a0 0 3;a0 0 3;a1 0 4;", 0, 2, 3, 0);
        left("a0 0 3;a0 0 3;a0 0 3;a1 0 8;", 0, 0, 1, 0);
        left("a0 0 3;a0 0 3;a0 0 3;a1 0 9;", 0, 0, 0, 0);
        left("a1 0 3;a0 0 4;a1 0 3;a1 1 5;a1 0 3;", 0, 0, 2, 5, 3);
        left("a0 1 9;a0 0 2;a1 0 3;a0 0 2;", 9, 0, 0, 1);
    }

    private static void battlesOfMany() {
        Edge.sentence("who has more there in all", 11);
        left("a0 0 9;a1 0 9;a1 0 9;a1 0 9;a1 0 9;a1 0 9;", 0, 0, 9, 9, 9, 9);
        left("a0 0 9;a0 0 9;a0 0 9;a0 0 9;a0 0 9;a1 0 9;", 0, 9, 9, 9, 9, 0);
        left("a0 0 9;a0 0 9;a0 0 9;a1 0 9;a1 0 9;a1 0 9;", 0, 0, 0, 0, 0, 0);
        left("a0 0 9;a0 0 9;a0 0 8;a1 0 9;a1 0 9;a1 0 9;", 0, 0, 0, 0, 0, 1);
        left("a0 0 5;a1 0 3;a1 0 3;", 0, 0, 1);
    }

    private static void battlesFieldByField() {
        Edge.sentence("Then, FIELD by FIELD: if both DUKES have TROOPS there, they FIGHT", 11);
        Edge.sentence("A DAY goes by: at how many FIELDS they fought.", 11);
        int[][] fields = {{}, {0}, {7}, {0, 7}, {3}, {5, 6, 7}, {0, 1, 2}};
        for (int[] at : fields) {
            StringBuilder s = new StringBuilder("f8;");
            int bits = 0;
            for (int f : at) {
                s.append("a0 ").append(f).append(" 2;a1 ").append(f).append(" 1;");
                bits |= 1 << f;
            }
            ChronicleWar war = Due.told(s.toString());
            Edge.is(s + " day()", war.day(), at.length);
            Edge.is(s + " written(1, 2)", war.written(1, 2), bits);
            Edge.is(s + " now(3)", war.now(3), at.length);
            Edge.is(s + " now(4)", war.now(4), 0);
        }
    }

    private static void noTroopsNoFight() {
        Edge.sentence("if both DUKES have TROOPS there, they FIGHT", 11);
        ChronicleWar war = Due.told("a0 0 2;a1 0 3;");
        Edge.is("day()", war.day(), 1);
        Edge.is("day() of one who is gone", war.day(), 0);
        Edge.is("army(1, 2)", war.army(1, 2), 1);
        war = Due.told("a0 0 2;a0 0 3;a1 1 1;");
        Edge.is("day() of one DUKE's", war.day(), 0);
        Edge.is("now(3)", war.now(3), 5);
        Edge.is("day() of none", Wars.fresh().day(), 0);
    }

    private static void dayEnds() {
        Edge.sentence("Then THE DAY is one more, both have no ORDER.", 11);
        ChronicleWar war = Wars.dayOf("r0 1;r2 3;a0 0 5;a1 2 3;", 2, 12);
        Edge.is("now(0)", war.now(0), 2);
        Edge.is("now(1)", war.now(1), 0);
        Edge.is("now(2)", war.now(2), 0);
        war.day();
        Edge.is("still there: army(0, 1)", war.army(0, 1), 1);
        Edge.is("written(2, 0)", war.written(2, 0), Edge.NONE);
    }

    private static void dayRefused() {
        Edge.sentence("at how many FIELDS they fought. STATE: the war is over.", 11);
        Edge.sentence("THE DAY (1 at first; 10: the war is over).", 11);
        ChronicleWar war = new ChronicleWar();
        for (int d = 1; d <= 9; d++) {
            Edge.is("now(0)", war.now(0), d);
            Edge.is("DAY " + d + ": day()", war.day(), 0);
        }
        Edge.is("DAY 10: day()", war.day(), Edge.STATE);
        Edge.is("now(0)", war.now(0), 10);
        Edge.changesNothing("over: day()", Wars::over, w -> w.day(), Edge.STATE);
    }

    private static void writes() {
        Edge.sentence("WRITTEN: how many PAGES. BAD; STATE: the DAY is gone; FULL.", 12);
        Edge.range("new: writes(#, 0, 0, 0)", 1, 9, Edge.BAD, Wars::fresh, (war, d) -> war.writes(d, 0, 0, 0));
        Edge.range("writes(#, 0, 0, 0)", 1, 9, Edge.BAD, Wars::busy, (war, d) -> war.writes(d, 0, 0, 0));
        Edge.range("writes(2, #, 0, 0)", 0, 2, Edge.BAD, Wars::busy, (war, x) -> war.writes(2, x, 0, 0));
        Edge.range("writes(9, 2, #, 0)", 0, 2, Edge.BAD, Wars::busy, (war, w) -> war.writes(9, 2, w, 0));
        for (int w = 0; w <= 2; w++) {
            int deed = w;
            Edge.range("writes(9, 2, " + w + ", #)", 0, 7, Edge.BAD, Wars::busy, (war, f) -> war.writes(9, 2, deed, f));
        }
        for (int n = 2; n <= 8; n++) {
            String text = "f" + n + ";";
            Edge.range("of " + n + ": writes(1, 0, 2, #)", 0, n - 1, Edge.BAD, () -> Due.told(text), (war, f) -> war.writes(1, 0, 2, f));
        }
    }

    private static void writesOfTheDay() {
        Edge.sentence("WRITTEN: a PAGE more, of THE DAY or later.", 12);
        for (int today = 1; today <= 10; today++) {
            for (int d = 1; d <= 9; d++) {
                ChronicleWar war = new ChronicleWar();
                Due.days(war, today - 1);
                String call = "on DAY " + today + ": writes(" + d + ", 2, 1, 3)";
                Edge.is(call, war.writes(d, 2, 1, 3), d < today ? Edge.STATE : 1);
                Edge.is(call + ", count(2)", war.count(2), d < today ? 0 : 1);
            }
        }
        Edge.changesNothing("on DAY 2: writes(1, 0, 0, 0)", Wars::busy, war -> war.writes(1, 0, 0, 0), Edge.STATE);
        Edge.changesNothing("over: writes(9, 0, 0, 0)", Wars::over, war -> war.writes(9, 0, 0, 0), Edge.STATE);
        Edge.changesNothing("over: writes(10, 0, 0, 0)", Wars::over, war -> war.writes(10, 0, 0, 0), Edge.BAD);
    }

    private static void writesFull() {
        Edge.sentence("PAGES 0 .. (6 at most)", 12);
        ChronicleWar war = new ChronicleWar();
        for (int many = 1; many <= 6; many++) {
            Edge.is("writes(" + many + ", 1, 0, 3)", war.writes(many, 1, 0, 3), many);
            Edge.is("the last one's DAY", war.page(many - 1, 0), many);
        }
        Edge.is("the seventh: writes(9, 0, 0, 0)", war.writes(9, 0, 0, 0), Edge.FULL);
        Edge.is("the first one's DAY", war.page(0, 0), 1);
        Edge.is("the last one's DAY", war.page(5, 0), 6);
        war.strikes(0);
        Edge.is("behind strikes(0): writes(9, 0, 0, 0)", war.writes(9, 0, 0, 0), 6);
        Edge.changesNothing("the seventh: writes(2, 0, 0, 0)", Wars::sixPages, w -> w.writes(2, 0, 0, 0), Edge.FULL);
        war = Due.told(Wars.pages(6));
        Edge.is("six were told: writes(1, 0, 0, 0)", war.writes(1, 0, 0, 0), Edge.FULL);
    }

    private static void writesRefusedInOrder() {
        Edge.sentence("Refused, and nothing changes, the first of these: BAD (a number is not as told, or there is no such thing), STATE (as told), FULL.", 12);
        Edge.changesNothing("gone and full: writes(1, 0, 0, 0)", Wars::sixPages, war -> war.writes(1, 0, 0, 0), Edge.STATE);
        Edge.changesNothing("gone and full: writes(1, 3, 0, 0)", Wars::sixPages, war -> war.writes(1, 3, 0, 0), Edge.BAD);
        Edge.changesNothing("gone and full: writes(1, 0, 3, 0)", Wars::sixPages, war -> war.writes(1, 0, 3, 0), Edge.BAD);
        Edge.changesNothing("gone and full: writes(1, 0, 0, 8)", Wars::sixPages, war -> war.writes(1, 0, 0, 8), Edge.BAD);
        Edge.changesNothing("gone and full: writes(0, 0, 0, 0)", Wars::sixPages, war -> war.writes(0, 0, 0, 0), Edge.BAD);
        Edge.changesNothing("full: writes(2, -1, 0, 0)", Wars::sixPages, war -> war.writes(2, -1, 0, 0), Edge.BAD);
        Edge.changesNothing("full: writes(10, 0, 0, 0)", Wars::sixPages, war -> war.writes(10, 0, 0, 0), Edge.BAD);
        Edge.changesNothing("gone: writes(1, 0, 0, -1)", Wars::busy, war -> war.writes(1, 0, 0, -1), Edge.BAD);
    }

    private static void strikes() {
        Edge.sentence("STRUCK: how many PAGES are left. BAD.", 13);
        Edge.changesNothing("of none: strikes(0)", Wars::fresh, war -> war.strikes(0), Edge.BAD);
        Edge.changesNothing("of none: strikes(-1)", Wars::fresh, war -> war.strikes(-1), Edge.BAD);
        Edge.range("of five: strikes(#)", 0, 4, Edge.BAD, Wars::busy, (war, k) -> war.strikes(k));
        Edge.range("of six: strikes(#)", 0, 5, Edge.BAD, Wars::sixPages, (war, k) -> war.strikes(k));
        for (int many = 1; many <= 6; many++) {
            String text = Wars.pages(many);
            Edge.range("of " + many + ": strikes(#)", 0, many - 1, Edge.BAD, () -> Due.told(text), (war, k) -> war.strikes(k));
            ChronicleWar war = Due.told(text);
            for (int left = many - 1; left >= 0; left--) {
                Edge.is("strikes(" + left + ")", war.strikes(left), left);
            }
            Edge.is("of none left: strikes(0)", war.strikes(0), Edge.BAD);
        }
    }

    private static void strikesCloseUp() {
        Edge.sentence("STRUCK: a PAGE is no more (those behind it close up).", 13);
        String[] told = {"1 0 0 3", "2 1 1 2", "3 2 2 1", "4 0 1 0", "5 1 2 7", "6 2 0 6"};
        String text = "f8;";
        for (String page : told) {
            text += "p" + page + ";";
        }
        for (int k = 0; k < 6; k++) {
            ChronicleWar war = Due.told(text);
            Edge.is("strikes(" + k + ")", war.strikes(k), 5);
            for (int i = 0; i < 5; i++) {
                String due = told[i < k ? i : i + 1];
                for (int what = 0; what < 4; what++) {
                    Edge.is("behind strikes(" + k + "): page(" + i + ", " + what + ")", war.page(i, what), due.charAt(2 * what) - '0');
                }
            }
            Edge.is("behind strikes(" + k + "): page(5, 0)", war.page(5, 0), Edge.BAD);
        }
    }

    private static void strikesAtAnyTime() {
        Edge.sentence("STRUCK: how many PAGES are left. BAD.", 13);
        ChronicleWar war = Wars.over();
        for (int left = 4; left >= 0; left--) {
            Edge.is("over: strikes(0)", war.strikes(0), left);
        }
        Edge.is("over, of none: strikes(0)", war.strikes(0), Edge.BAD);
        war = Wars.dayOf("r0 1;a0 0 1;p1 0 0 1;p1 0 0 0;", 2, 0);
        Edge.is("BROKEN: strikes(1)", war.strikes(1), 1);
        Edge.is("FULFILLED: strikes(0)", war.strikes(0), 0);
    }

    private static void undoOfEach() {
        Edge.sentence("UNDONE: the latest orders(), day(), writes(), strikes() that was not refused", 14);
        Edge.changesNothing("orders(0, 0), undone", WarEdges::threeSteps, war -> undone(war, war.orders(0, 0)), 3);
        Edge.changesNothing("orders(0, 2), as it was, undone", WarEdges::threeSteps, war -> undone(war, war.orders(0, 2)), 3);
        Edge.changesNothing("orders(1, 0), undone", WarEdges::threeSteps, war -> undone(war, war.orders(1, 0)), 3);
        Edge.changesNothing("day(), undone", WarEdges::threeSteps, war -> undone(war, war.day()), 3);
        Edge.changesNothing("writes(9, 2, 2, 3), undone", WarEdges::threeSteps, war -> undone(war, war.writes(9, 2, 2, 3)), 3);
        Edge.changesNothing("strikes(0), undone", WarEdges::threeSteps, war -> undone(war, war.strikes(0)), 3);
        Edge.changesNothing("strikes(1), undone", WarEdges::threeSteps, war -> undone(war, war.strikes(1)), 3);
    }

    private static ChronicleWar threeSteps() {
        ChronicleWar war = Due.told("r0 1;r1 2;a0 0 5;a1 2 3;p1 0 0 1;");
        war.keep(0);
        war.orders(0, 2);
        war.writes(2, 1, 1, 1);
        war.orders(1, 10);
        return war;
    }

    private static long undone(ChronicleWar war, long step) {
        return step < 0 ? step : war.undo();
    }

    private static void undoneOnlyThese() {
        Edge.sentence("that was not refused (10 are known, older ones are lost).", 14);
        ChronicleWar war = Wars.busy();
        war.clear();
        war.type('f');
        war.type(256);
        war.land();
        war.roads(0);
        war.dutiful(0, -1);
        war.best(0, 2, 1);
        war.least(1);
        war.rate(0, 0);
        war.keep(0);
        war.strikes(6);
        war.writes(1, 0, 0, 0);
        war.orders(0, 49);
        Edge.is("behind calls that are none of these: now(5)", war.now(5), 10);
        Edge.is("undo()", war.undo(), 9);
        Edge.is("now(1) ahead of the last orders()", war.now(1), 0);
        Edge.is("count(3): no letter is UNDONE", war.count(3), 1);
        Edge.is("trace(): nothing of it is UNDONE", war.trace(), 1012);
    }

    /** PAGES come and go, so that each step can be told by the DAY of the last one. */
    private static ChronicleWar steps(int many) {
        ChronicleWar war = Due.told("p9 0 0 0;");
        for (int step = 1; step <= many; step++) {
            if (step % 2 == 1) {
                war.writes(step / 2 % 8 + 1, 0, 0, 0);
            } else {
                war.strikes(1);
            }
        }
        return war;
    }

    private static void undoTen() {
        Edge.sentence("UNDONE: how many more may be. STATE: none.", 14);
        Edge.sentence("10 are known, older ones are lost", 14);
        for (int many = 0; many <= 13; many++) {
            ChronicleWar war = steps(many);
            int known = Math.min(many, 10);
            Edge.is("of " + many + ": now(5)", war.now(5), known);
            for (int back = 1; back <= known; back++) {
                Edge.is("of " + many + ": undo() " + back, war.undo(), known - back);
                isAsBehind(war, many - back);
            }
            Edge.is("of " + many + ": undo() of none", war.undo(), Edge.STATE);
            isAsBehind(war, many - known);
        }
    }

    private static void isAsBehind(ChronicleWar war, int steps) {
        Edge.is("behind step " + steps + ": count(2)", war.count(2), steps % 2 == 1 ? 2 : 1);
        Edge.is("behind step " + steps + ": page(1, 0)", war.page(1, 0), steps % 2 == 1 ? steps / 2 % 8 + 1 : Edge.BAD);
    }

    private static void undoOfManyMore() {
        Edge.sentence("10 are known, older ones are lost", 14);
        ChronicleWar war = steps(97);
        for (int back = 1; back <= 4; back++) {
            Edge.is("undo()", war.undo(), 10 - back);
        }
        isAsBehind(war, 93);
        war.orders(0, 0);
        Edge.is("behind a new step: now(5)", war.now(5), 7);
        for (int back = 1; back <= 7; back++) {
            Edge.is("undo()", war.undo(), 7 - back);
        }
        isAsBehind(war, 87);
        Edge.is("undo() of none", war.undo(), Edge.STATE);
    }

    private static void undoAtTheEnd() {
        Edge.sentence("UNDONE: the latest orders(), day(), writes(), strikes()", 14);
        ChronicleWar war = Due.told("r0 1;a0 0 5;a1 1 9;p9 0 0 1;");
        Due.days(war, 8);
        war.orders(0, 2);
        Edge.is("DAY 9: day()", war.day(), 1);
        Edge.is("over: undo()", war.undo(), 9);
        Edge.is("now(0)", war.now(0), 9);
        Edge.is("now(1)", war.now(1), 2);
        Edge.is("army(0, 2)", war.army(0, 2), 5);
        Edge.is("written(9, 0)", war.written(9, 0), Edge.NO);
        Edge.is("page(0, 4)", war.page(0, 4), 0);
        war.orders(0, 0);
        Edge.is("otherwise: day()", war.day(), 0);
        Edge.is("otherwise: written(9, 0)", war.written(9, 0), Edge.NONE);
        Edge.is("otherwise: page(0, 4)", war.page(0, 4), 2);
    }

    private static void undoRefused() {
        Edge.sentence("UNDONE: how many more may be. STATE: none.", 14);
        Edge.changesNothing("new: undo()", Wars::fresh, war -> war.undo(), Edge.STATE);
        Edge.changesNothing("told: undo()", () -> Due.told("f2;p1 0 0 0;"), war -> war.undo(), Edge.STATE);
        Edge.changesNothing("all is UNDONE: undo()", () -> {
            ChronicleWar war = threeSteps();
            for (int i = 0; i < 3; i++) {
                war.undo();
            }
            return war;
        }, war -> war.undo(), Edge.STATE);
    }
}
