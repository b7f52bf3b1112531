/** Promises 15 and 16: DUTIFUL ORDERS, and the best of them. */
final class BestTest {
    public static void main(String[] args) {
        dutifulWithoutPages();
        dutifulByPages();
        dutifulOfThisDayAndDukeAlone();
        dutifulRefused();
        best();
        bestRefused();
        Due.end();
    }

    private static void dutiful(ChronicleWar war, int x, int... due) {
        Due.is("dutiful(" + x + ", -1)", war.dutiful(x, -1), due.length);
        for (int i = 0; i < due.length; i++) {
            Due.is("dutiful(" + x + ", " + i + ")", war.dutiful(x, i), due[i]);
        }
        Due.is("dutiful(" + x + ", " + due.length + ")", war.dutiful(x, due.length), -5);
        Due.is("dutiful(" + x + ", MAX)", war.dutiful(x, Integer.MAX_VALUE), -5);
    }

    private static void dutifulWithoutPages() {
        ChronicleWar war = Due.told("f8;r0 1;r0 7;r1 2;a0 0 5;a1 2 3;a0 1 1;a0 4 4;a0 3 1;a1 3 1;");
        dutiful(war, 0, 0, 2, 8, 17, 19);
        dutiful(war, 1, 0, 10);
        war.orders(0, 2);
        dutiful(war, 0, 0, 2, 8, 17, 19);
        war = Due.told("r0 1;a0 0 5;a1 0 6;");
        war.day();
        dutiful(war, 0, 0);
        dutiful(war, 1, 0, 10);
        dutiful(new ChronicleWar(), 1, 0);
        dutiful(Due.told("f8;r6 7;" + "a1 0 1;".repeat(5) + "a0 6 1;"), 0, 0, 48);
    }

    private static void dutifulByPages() {
        String land = "f8;r0 1;r0 7;r1 2;r1 7;a0 0 5;a1 2 3;a0 1 1;";
        dutiful(Due.told(land), 0, 0, 2, 8, 17, 19, 24);
        dutiful(Due.told(land + "p1 0 0 7;"), 0, 8, 24);
        dutiful(Due.told(land + "p1 0 0 7;p1 0 0 7;"), 0, 8, 24);
        dutiful(Due.told(land + "p1 0 0 3;"), 0);
        dutiful(Due.told(land + "p1 0 2 7;"), 0, 0);
        dutiful(Due.told(land + "p1 0 2 7;p1 0 0 7;"), 0);
        dutiful(Due.told(land + "p1 0 0 1;p1 0 0 7;"), 0);
        dutiful(Due.told(land + "p1 0 1 3;"), 0, 0, 2, 8, 17, 19, 24);
    }

    private static void dutifulOfThisDayAndDukeAlone() {
        ChronicleWar war = Due.told("r0 1;r0 2;a0 0 5;p1 1 2 0;p1 2 0 2;p2 0 0 1;p1 2 2 0;");
        dutiful(war, 0, 0, 2, 3);
        dutiful(war, 1, 0);
        war.day();
        dutiful(war, 0, 2);
        war.day();
        dutiful(war, 0, 0, 2, 3);
    }

    private static void dutifulRefused() {
        ChronicleWar war = Due.told("r0 1;a0 0 5;");
        Due.is("dutiful(2, -1)", war.dutiful(2, -1), ChronicleWar.BAD);
        Due.is("dutiful(-1, -1)", war.dutiful(-1, -1), ChronicleWar.BAD);
        Due.is("dutiful(0, -2)", war.dutiful(0, -2), ChronicleWar.BAD);
        Due.days(war, 8);
        Due.is("day 9: dutiful(0, -1)", war.dutiful(0, -1), 2);
        war.day();
        Due.is("over: dutiful(0, -1)", war.dutiful(0, -1), ChronicleWar.STATE);
        Due.is("over: dutiful(1, 9)", war.dutiful(1, 9), ChronicleWar.STATE);
        Due.is("over: dutiful(0, -2)", war.dutiful(0, -2), ChronicleWar.BAD);
        Due.is("over: dutiful(2, 0)", war.dutiful(2, 0), ChronicleWar.BAD);
    }

    private static void best(ChronicleWar war, int x, int more, int order) {
        for (int n = 0; n <= 2; n++) {
            Due.is("best(" + x + ", " + n + ", 0)", war.best(x, n, 0), more);
            Due.is("best(" + x + ", " + n + ", 1)", war.best(x, n, 1), n == 0 ? -1 : order);
        }
    }

    private static void best() {
        ChronicleWar war = Due.told("r0 1;r1 2;a0 0 5;a1 2 9;p1 0 0 1;p1 1 2 0;p2 1 0 1;p2 0 2 0;");
        best(war, 0, -4, 2);
        best(war, 1, 4, 0);
        war.orders(0, 2);
        best(war, 0, -4, 2);
        Due.is("now(5)", war.now(5), 1);
        war.day();
        best(war, 0, -4, 0);
        best(war, 1, 4, 10);
        war = Due.told("a0 0 5;p1 0 0 1;");
        best(war, 0, 5, 0);
        Due.days(war, 8);
        best(war, 0, 5, 0);
        war.day();
        best(war, 0, 5, -1);
        best(war, 1, -5, -1);
    }

    private static void bestRefused() {
        ChronicleWar war = Due.told("r0 1;a0 0 5;");
        Due.is("best(2, 1, 0)", war.best(2, 1, 0), ChronicleWar.NO);
        Due.is("best(-1, 1, 0)", war.best(-1, 1, 0), ChronicleWar.NO);
        Due.is("best(0, -1, 0)", war.best(0, -1, 0), ChronicleWar.NO);
        Due.is("best(0, 3, 0)", war.best(0, 3, 0), ChronicleWar.NO);
        Due.is("best(0, 1, 2)", war.best(0, 1, 2), ChronicleWar.NO);
        Due.is("best(0, 1, -1)", war.best(0, 1, -1), ChronicleWar.NO);
    }
}
