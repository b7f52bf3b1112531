import java.util.function.Supplier;

/** Boundary cases of DUTIFUL ORDERS and of the best of them: promises 15 and 16. */
final class BestEdges {
    private static final String LAND = "f8;r0 1;r0 7;r1 7;a0 0 5;a1 7 3;a0 1 1;";

    private BestEdges() {
    }

    static void all() {
        howMany();
        theNth();
        dutifulRefused();
        noneIsDutiful();
        tellsJustHim();
        marchOrRest();
        ofTheDay();
        dutifulChangesNothing();
        bestRefused();
        bestTroops();
        bestOfNoDays();
        bestAsTheWarEnds();
        bestOfNone();
        leastOrder();
        bestChangesNothing();
    }

    private static void dutiful(String call, ChronicleWar war, int x, int... due) {
        Edge.is(call + " dutiful(" + x + ", -1)", war.dutiful(x, -1), due.length);
        for (int i = 0; i < due.length; i++) {
            Edge.is(call + " dutiful(" + x + ", " + i + ")", war.dutiful(x, i), due[i]);
        }
        Edge.is(call + " dutiful(" + x + ", " + due.length + ")", war.dutiful(x, due.length), -5);
    }

    private static void howMany() {
        Edge.sentence("DUTIFUL: how many (i = -1), the i-th (-5: not so many). BAD; STATE: the war is over.", 15);
        dutiful("new:", Wars.fresh(), 0, 0);
        dutiful("new:", Wars.fresh(), 1, 0);
        dutiful(LAND, Due.told(LAND), 0, 0, 2, 8, 17, 24);
        dutiful(LAND, Due.told(LAND), 1, 0, 9, 10);
        ChronicleWar war = Due.told("f8;" + Wars.allRoads(8) + Wars.armies(6, 1));
        Edge.is("the most: dutiful(0, -1)", war.dutiful(0, -1), 43);
        Edge.is("the most: dutiful(0, 0)", war.dutiful(0, 0), 0);
        Edge.is("the most: dutiful(0, 1)", war.dutiful(0, 1), 2);
        Edge.is("the most: dutiful(0, 42)", war.dutiful(0, 42), 48);
        Edge.is("the most: dutiful(0, 43)", war.dutiful(0, 43), -5);
        dutiful("the most:", war, 1, 0);
    }

    private static void theNth() {
        Edge.sentence("the i-th (-5: not so many)", 15);
        int[] beyond = {5, 6, 43, 48, 1000, Edge.MAX - 1, Edge.MAX};
        for (int i : beyond) {
            Edge.changesNothing("dutiful(0, " + i + ")", () -> Due.told(LAND), war -> war.dutiful(0, i), -5);
        }
        Edge.sentence("Refused, and nothing changes, the first of these: BAD", 15);
        int[] below = {-2, -3, -5, Edge.MIN};
        for (int i : below) {
            Edge.changesNothing("dutiful(0, " + i + ")", Wars::busy, war -> war.dutiful(0, i), Edge.BAD);
            Edge.changesNothing("dutiful(1, " + i + ")", Wars::over, war -> war.dutiful(1, i), Edge.BAD);
        }
    }

    private static void dutifulRefused() {
        Edge.sentence("BAD; STATE: the war is over.", 15);
        Edge.range("dutiful(#, -1)", 0, 1, Edge.BAD, Wars::busy, (war, x) -> war.dutiful(x, -1));
        Edge.range("over: dutiful(#, 0)", 0, 1, Edge.BAD, Wars::over, (war, x) -> war.dutiful(x, 0));
        int[] numbers = {-1, 0, 1, Edge.MAX};
        for (int i : numbers) {
            Edge.changesNothing("over: dutiful(0, " + i + ")", Wars::over, war -> war.dutiful(0, i), Edge.STATE);
            Edge.changesNothing("over: dutiful(1, " + i + ")", Wars::over, war -> war.dutiful(1, i), Edge.STATE);
        }
        ChronicleWar war = Due.told(LAND);
        Due.days(war, 8);
        Edge.is("DAY 9: dutiful(0, -1)", war.dutiful(0, -1), 5);
        war.day();
        Edge.is("DAY 10: dutiful(0, -1)", war.dutiful(0, -1), Edge.STATE);
        war.undo();
        Edge.is("DAY 9 again: dutiful(0, -1)", war.dutiful(0, -1), 5);
    }

    private static void byPages(String pages, int... due) {
        dutiful(pages, Due.told(LAND + pages), 0, due);
    }

    private static void noneIsDutiful() {
        Edge.sentence("ORDERS of his by which no PAGE of THE DAY that tells just him (not: him, either) to MARCH or REST would be BROKEN", 15);
        byPages("p1 0 0 2;");
        byPages("p1 0 0 0;p1 0 0 1;");
        byPages("p1 0 2 0;p1 0 0 1;");
        byPages("p1 0 0 1;p1 0 2 1;");
        dutiful("without ARMIES:", Due.told("p1 0 0 0;"), 0);
        dutiful("without ARMIES:", Due.told("p1 0 2 0;"), 0, 0);
    }

    private static void tellsJustHim() {
        Edge.sentence("that tells just him (not: him, either)", 15);
        byPages("p1 0 0 7;", 8, 24);
        byPages("p1 1 0 7;", 0, 2, 8, 17, 24);
        byPages("p1 2 0 7;", 0, 2, 8, 17, 24);
        byPages("p1 2 2 7;", 0, 2, 8, 17, 24);
        byPages("p1 1 2 7;", 0, 2, 8, 17, 24);
        dutiful("p1 1 0 1;", Due.told(LAND + "p1 1 0 1;"), 1, 10);
        dutiful("p1 0 0 1;", Due.told(LAND + "p1 0 0 1;"), 1, 0, 9, 10);
    }

    private static void marchOrRest() {
        Edge.sentence("to MARCH or REST would be BROKEN", 15);
        byPages("p1 0 0 0;", 17);
        byPages("p1 0 0 1;", 2);
        byPages("p1 0 0 1;p1 0 0 1;", 2);
        byPages("p1 0 2 7;", 0);
        byPages("p1 0 2 7;p1 0 2 1;", 0);
        byPages("p1 0 1 7;", 0, 2, 8, 17, 24);
        byPages("p1 0 1 2;p1 0 0 7;", 8, 24);
        byPages("p1 0 0 7;p1 1 0 1;p1 2 2 0;p1 0 1 0;p1 0 0 7;p1 2 0 3;", 8, 24);
    }

    private static void ofTheDay() {
        Edge.sentence("no PAGE of THE DAY", 15);
        for (int d = 1; d <= 9; d++) {
            ChronicleWar war = Due.told("r0 1;a0 0 5;p" + d + " 0 0 1;");
            for (int today = 1; today <= 9; today++) {
                if (today == d) {
                    dutiful("PAGE of DAY " + d + " on DAY " + today, war, 0, 2);
                } else {
                    dutiful("PAGE of DAY " + d + " on DAY " + today, war, 0, 0, 2);
                }
                war.day();
            }
        }
    }

    private static void dutifulChangesNothing() {
        Edge.sentence("(Nothing is changed.) ORDERS of a DUKE for THE DAY", 15);
        Edge.changesNothing("dutiful(0, -1)", Wars::busy, war -> war.dutiful(0, -1), 5);
        Edge.changesNothing("dutiful(0, 0)", Wars::busy, war -> war.dutiful(0, 0), 0);
        Edge.changesNothing("dutiful(1, 9)", Wars::busy, war -> war.dutiful(1, 9), -5);
    }

    private static void bestRefused() {
        Edge.sentence("BEST: TROOPS more (what = 0), the ORDER (1; -1). NO: BAD.", 16);
        Edge.sentence("BEST for a DUKE, n (0 .. 2) DAYS", 16);
        for (Supplier<ChronicleWar> made : java.util.List.<Supplier<ChronicleWar>>of(Wars::busy, Wars::over, Wars::fresh)) {
            for (int what = 0; what <= 1; what++) {
                int asked = what;
                Edge.range("best(#, 1, " + what + ")", 0, 1, Edge.NO, made, (war, x) -> war.best(x, 1, asked));
                Edge.range("best(0, #, " + what + ")", 0, 2, Edge.NO, made, (war, n) -> war.best(0, n, asked));
                Edge.range("best(1, #, " + what + ")", 0, 2, Edge.NO, made, (war, n) -> war.best(1, n, asked));
            }
            Edge.range("best(0, 0, #)", 0, 1, Edge.NO, made, (war, what) -> war.best(0, 0, what));
            Edge.range("best(1, 2, #)", 0, 1, Edge.NO, made, (war, what) -> war.best(1, 2, what));
        }
    }

    private static void bestIs(String call, ChronicleWar war, int x, int more, int order) {
        for (int n = 0; n <= 2; n++) {
            Edge.is(call + " best(" + x + ", " + n + ", 0)", war.best(x, n, 0), more);
            Edge.is(call + " best(" + x + ", " + n + ", 1)", war.best(x, n, 1), n == 0 ? -1 : order);
        }
    }

    private static void bestTroops() {
        Edge.sentence("his TROOPS less the other's: as many as he can be sure of", 16);
        bestIs("new:", Wars.fresh(), 0, 0, 0);
        bestIs("new:", Wars.fresh(), 1, 0, 0);
        bestIs("the most:", Due.told(Wars.armies(6, 9)), 0, 54, 0);
        bestIs("the least:", Due.told(Wars.armies(6, 9)), 1, -54, 0);
        bestIs("one less:", Due.told("a0 0 1;a1 0 2;"), 0, -1, 0);
        bestIs("one more:", Due.told("a0 0 1;a1 0 2;"), 1, 1, 0);
        ChronicleWar war = Due.told("a0 0 1;a1 0 2;");
        war.day();
        bestIs("gone:", war, 0, -1, 0);
    }

    private static void bestOfNoDays() {
        Edge.sentence("(-1: n is 0, or the war is over)", 16);
        ChronicleWar war = Due.told(LAND + "p1 0 0 7;");
        Edge.is("best(0, 0, 1)", war.best(0, 0, 1), -1);
        Edge.is("best(0, 1, 1)", war.best(0, 1, 1), 8);
        Edge.is("best(0, 2, 1)", war.best(0, 2, 1), 8);
        war = Due.told(LAND);
        Due.days(war, 8);
        bestIs("DAY 9:", war, 0, 3, 0);
        war.day();
        bestIs("DAY 10:", war, 0, 3, -1);
        bestIs("DAY 10:", war, 1, -3, -1);
    }

    private static void bestAsTheWarEnds() {
        Edge.sentence("at the end (or as the war is over)", 16);
        ChronicleWar war = Due.told("r0 1;a0 0 5;a1 1 3;p9 0 0 1;p8 1 0 0;");
        Due.days(war, 7);
        bestIs("DAY 8:", war, 0, 2, 0);
        bestIs("DAY 8:", war, 1, -2, 9);
        war.day();
        bestIs("DAY 9:", war, 0, 2, 2);
        bestIs("DAY 9:", war, 1, -2, 0);
    }

    private static void bestOfNone() {
        Edge.sentence("(each a DUTIFUL one; none at all, if none is DUTIFUL)", 16);
        bestIs("no such ROAD:", Due.told(LAND + "p1 0 0 2;"), 0, 3, 0);
        bestIs("two FIELDS:", Due.told(LAND + "p1 0 0 0;p1 0 0 1;"), 0, 3, 0);
        bestIs("the other one's:", Due.told(LAND + "p1 1 0 2;"), 0, 3, 0);
        bestIs("the other one's:", Due.told(LAND + "p1 1 0 2;p1 0 0 7;"), 0, 3, 8);
        bestIs("the other one's:", Due.told(LAND + "p1 1 0 2;p1 0 0 7;"), 1, -3, 0);
    }

    private static void leastOrder() {
        Edge.sentence("the least ORDER of his by which he is", 16);
        bestIs("none:", Due.told(LAND), 0, 3, 0);
        bestIs("to FIELD 0:", Due.told(LAND + "p1 0 0 0;"), 0, 3, 17);
        bestIs("to FIELD 1:", Due.told(LAND + "p1 0 0 1;"), 0, 3, 2);
        bestIs("to FIELD 7:", Due.told(LAND + "p1 0 0 7;"), 0, 3, 8);
        bestIs("him, either:", Due.told(LAND + "p1 2 0 7;"), 0, 3, 0);
        bestIs("the first:", Due.told("r0 1;a0 1 1;p1 0 0 0;"), 0, 1, 1);
        bestIs("the last:", Due.told("f8;r6 7;" + "a0 0 1;".repeat(5) + "a1 6 2;p1 1 0 7;"), 1, -3, 48);
    }

    private static void bestChangesNothing() {
        Edge.sentence("(Nothing is changed.) ORDERS of a DUKE for THE DAY", 16);
        Edge.changesNothing("best(0, 2, 0)", Wars::busy, war -> war.best(0, 2, 0), -3);
        Edge.changesNothing("best(1, 2, 1)", Wars::busy, war -> war.best(1, 2, 1), 0);
        Edge.changesNothing("over: best(1, 2, 1)", Wars::over, war -> war.best(1, 2, 1), -1);
    }
}
