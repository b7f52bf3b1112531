/** Promises 10 to 14: ORDERS, DAYS, PAGES written and struck, all of it undone. */
final class WarTest {
    public static void main(String[] args) {
        orders();
        ordersRefused();
        aDayGoesBy();
        armiesThatPass();
        battles();
        battlesAtSeveralFields();
        theWarIsOver();
        writes();
        writesRefused();
        strikes();
        undo();
        undoOfTen();
        Due.end();
    }

    private static void orders() {
        ChronicleWar war = Due.told("f8;r0 7;r7 3;a0 0 5;a1 7 3;a0 7 1;");
        Due.is("orders(0, 8)", war.orders(0, 8), 1);
        Due.is("now(1)", war.now(1), 8);
        Due.is("orders(0, 20)", war.orders(0, 20), 1);
        Due.is("now(1) given anew", war.now(1), 20);
        Due.is("orders(1, 9)", war.orders(1, 9), 1);
        Due.is("now(2)", war.now(2), 9);
        Due.is("orders(0, 0)", war.orders(0, 0), 1);
        Due.is("now(1) none", war.now(1), 0);
        Due.is("now(5)", war.now(5), 4);
    }

    private static void ordersRefused() {
        ChronicleWar war = Due.told("f8;r0 1;r0 7;a0 0 5;a1 0 6;");
        ChronicleWar last = Due.told("f8;r6 7;" + "a1 0 1;".repeat(5) + "a0 6 1;");
        Due.is("orders(0, 48) of the last ARMY", last.orders(0, 48), 1);
        int[] bad = {-1, 1, 3, 9, 10, 16, 17, 18, 48, 49, 50, Integer.MAX_VALUE, Integer.MIN_VALUE};
        for (int order : bad) {
            Due.is("orders(0, " + order + ")", war.orders(0, order), ChronicleWar.BAD);
        }
        Due.is("orders(1, 2)", war.orders(1, 2), ChronicleWar.BAD);
        Due.is("orders(2, 0)", war.orders(2, 0), ChronicleWar.BAD);
        Due.is("orders(-1, 0)", war.orders(-1, 0), ChronicleWar.BAD);
        Due.is("now(1)", war.now(1), 0);
        Due.is("now(5)", war.now(5), 0);
        war.day();
        Due.is("orders(0, 2) of one that is gone", war.orders(0, 2), ChronicleWar.BAD);
        Due.is("orders(1, 10)", war.orders(1, 10), 1);
        Due.days(war, 8);
        Due.is("over: orders(1, 9)", war.orders(1, 9), ChronicleWar.STATE);
        Due.is("over: orders(1, 0)", war.orders(1, 0), ChronicleWar.STATE);
        Due.is("over: orders(1, 10)", war.orders(1, 10), ChronicleWar.BAD);
        Due.is("over: orders(2, 0)", war.orders(2, 0), ChronicleWar.BAD);
        Due.is("over: orders(1, 49)", war.orders(1, 49), ChronicleWar.BAD);
    }

    private static void aDayGoesBy() {
        ChronicleWar war = Due.told("r0 1;r2 3;a0 0 5;a1 2 3;");
        war.orders(0, 2);
        war.orders(1, 12);
        Due.is("day()", war.day(), 0);
        Due.is("now(0)", war.now(0), 2);
        Due.is("now(1)", war.now(1), 0);
        Due.is("now(2)", war.now(2), 0);
        Due.is("army(0, 1)", war.army(0, 1), 1);
        Due.is("army(1, 1)", war.army(1, 1), 3);
    }

    private static void armiesThatPass() {
        ChronicleWar war = Due.told("r0 1;a0 0 5;a1 1 3;");
        war.orders(0, 2);
        war.orders(1, 9);
        Due.is("day() on one ROAD", war.day(), 0);
        Due.is("now(3)", war.now(3), 5);
        Due.is("now(4)", war.now(4), 3);
    }

    private static void troops(ChronicleWar war, int... due) {
        for (int a = 0; a < due.length; a++) {
            Due.is("army(" + a + ", 2)", war.army(a, 2), due[a]);
        }
    }

    private static void battles() {
        ChronicleWar war = Due.told("a0 0 2;a1 0 4;a0 0 3;a0 1 9;a0 0 1;");
        Due.is("day() where DUKE 0 has more", war.day(), 1);
        troops(war, 0, 0, 1, 9, 1);
        Due.is("day() behind it", war.day(), 0);
        war = Due.told("a1 3 2;a0 3 4;a1 3 3;a0 3 1;a1 3 9;");
        Due.is("day() where DUKE 1 has more", war.day(), 1);
        troops(war, 0, 0, 0, 0, 9);
        war = Due.told("a0 2 2;a1 2 4;a0 2 2;");
        Due.is("day() where they are alike", war.day(), 1);
        troops(war, 0, 0, 0);
        Due.is("army(1, 1) that is gone", war.army(1, 1), 2);
        Due.is("day() of those that are gone", war.day(), 0);
    }

    private static void battlesAtSeveralFields() {
        ChronicleWar war = Due.told("f8;r6 7;a0 0 9;a1 0 1;a0 7 2;a1 6 3;a1 5 3;");
        war.orders(1, 32);
        war.undo();
        Due.is("orders(1, 32)", war.orders(1, 32), 1);
        Due.is("day()", war.day(), 2);
        Due.is("written(1, 2)", war.written(1, 2), 129);
        Due.is("written(1, 1)", war.written(1, 1), 7);
        troops(war, 8, 0, 0, 1, 3);
        Due.is("now(3)", war.now(3), 8);
        Due.is("now(4)", war.now(4), 4);
    }

    private static void theWarIsOver() {
        ChronicleWar war = Due.told("a0 0 9;");
        for (int d = 1; d <= 9; d++) {
            Due.is("day() of " + d, war.day(), 0);
            Due.is("now(0) behind " + d, war.now(0), d + 1);
        }
        Due.is("day() of 10", war.day(), ChronicleWar.STATE);
        Due.is("now(0)", war.now(0), 10);
        Due.is("now(5)", war.now(5), 9);
    }

    private static void writes() {
        ChronicleWar war = Due.told("f3;");
        war.day();
        Due.is("writes(2, 2, 1, 2)", war.writes(2, 2, 1, 2), 1);
        Due.is("writes(9, 0, 2, 0)", war.writes(9, 0, 2, 0), 2);
        int[] due = {2, 2, 1, 2, 0, 9, 0, 2, 0, 0};
        for (int i = 0; i < 10; i++) {
            Due.is("page(" + i / 5 + ", " + i % 5 + ")", war.page(i / 5, i % 5), due[i]);
        }
        Due.is("count(2)", war.count(2), 2);
        Due.is("now(5)", war.now(5), 3);
    }

    private static void writesRefused() {
        ChronicleWar war = Due.told("f3;");
        war.day();
        int[][] bad = {{0, 0, 0, 0}, {10, 0, 0, 0}, {-1, 0, 0, 0}, {2, -1, 0, 0}, {2, 3, 0, 0}, {2, 0, -1, 0},
            {2, 0, 3, 0}, {2, 0, 0, -1}, {2, 0, 0, 3}, {2, 0, 2, 3}, {1, 3, 0, 0}};
        for (int[] b : bad) {
            Due.is("writes(" + b[0] + ", " + b[1] + ", " + b[2] + ", " + b[3] + ")",
                war.writes(b[0], b[1], b[2], b[3]), ChronicleWar.BAD);
        }
        Due.is("writes(1, 0, 0, 0)", war.writes(1, 0, 0, 0), ChronicleWar.STATE);
        Due.is("count(2)", war.count(2), 0);
        for (int k = 1; k <= 6; k++) {
            Due.is("writes(2, 0, 0, 0)", war.writes(2, 0, 0, 0), k);
        }
        Due.is("writes(2, 0, 0, 0) the seventh", war.writes(2, 0, 0, 0), ChronicleWar.FULL);
        Due.is("writes(1, 0, 0, 0) the seventh", war.writes(1, 0, 0, 0), ChronicleWar.STATE);
        Due.is("writes(2, 3, 0, 0) the seventh", war.writes(2, 3, 0, 0), ChronicleWar.BAD);
        Due.is("count(2) of six", war.count(2), 6);
        Due.is("now(5)", war.now(5), 7);
        war.strikes(0);
        Due.days(war, 8);
        Due.is("over: writes(9, 0, 0, 0)", war.writes(9, 0, 0, 0), ChronicleWar.STATE);
    }

    private static void strikes() {
        ChronicleWar war = Due.told("p1 0 0 1;p2 1 1 2;p3 2 2 3;p4 0 1 0;");
        Due.is("strikes(4)", war.strikes(4), ChronicleWar.BAD);
        Due.is("strikes(-1)", war.strikes(-1), ChronicleWar.BAD);
        Due.is("strikes(1)", war.strikes(1), 3);
        int[] due = {1, 0, 0, 1, 3, 2, 2, 3, 4, 0, 1, 0};
        for (int i = 0; i < 12; i++) {
            Due.is("page(" + i / 4 + ", " + i % 4 + ")", war.page(i / 4, i % 4), due[i]);
        }
        Due.is("strikes(3)", war.strikes(3), ChronicleWar.BAD);
        Due.is("strikes(2)", war.strikes(2), 2);
        Due.days(war, 9);
        Due.is("over: strikes(0)", war.strikes(0), 1);
        Due.is("over: page(0, 0)", war.page(0, 0), 3);
        Due.is("over: strikes(0)", war.strikes(0), 0);
        Due.is("strikes(0) of none", war.strikes(0), ChronicleWar.BAD);
    }

    private static void undo() {
        ChronicleWar war = Due.told("r0 1;r1 2;a0 0 5;a1 2 3;p1 0 0 1;");
        war.orders(0, 2);
        war.orders(1, 10);
        war.day();
        war.writes(2, 0, 0, 0);
        war.strikes(0);
        war.strikes(7);
        war.writes(1, 0, 0, 0);
        war.orders(0, 40);
        Due.is("now(5)", war.now(5), 5);
        Due.is("undo() of strikes()", war.undo(), 4);
        Due.is("page(0, 0)", war.page(0, 0), 1);
        Due.is("page(1, 0)", war.page(1, 0), 2);
        Due.is("undo() of writes()", war.undo(), 3);
        Due.is("count(2)", war.count(2), 1);
        Due.is("undo() of day()", war.undo(), 2);
        Due.is("now(0)", war.now(0), 1);
        Due.is("now(1)", war.now(1), 2);
        Due.is("now(2)", war.now(2), 10);
        Due.is("army(0, 1)", war.army(0, 1), 0);
        Due.is("army(0, 2)", war.army(0, 2), 5);
        Due.is("army(1, 2)", war.army(1, 2), 3);
        Due.is("written(1, 0)", war.written(1, 0), ChronicleWar.NO);
        Due.is("undo() of orders()", war.undo(), 1);
        Due.is("now(2)", war.now(2), 0);
        Due.is("undo() of the first", war.undo(), 0);
        Due.is("now(1)", war.now(1), 0);
        Due.is("undo() of none", war.undo(), ChronicleWar.STATE);
    }

    private static void undoOfTen() {
        ChronicleWar war = Due.told("");
        for (int i = 1; i <= 6; i++) {
            war.writes(i, 0, 0, 0);
        }
        Due.days(war, 7);
        Due.is("now(5) of thirteen", war.now(5), 10);
        for (int left = 9; left >= 0; left--) {
            Due.is("undo()", war.undo(), left);
        }
        Due.is("undo() of the eleventh", war.undo(), ChronicleWar.STATE);
        Due.is("now(0)", war.now(0), 1);
        Due.is("count(2)", war.count(2), 3);
        Due.is("writes(9, 0, 0, 0)", war.writes(9, 0, 0, 0), 4);
        Due.is("now(5) of one", war.now(5), 1);
    }
}
