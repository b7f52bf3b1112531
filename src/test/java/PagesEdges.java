/** Boundary cases of READINGS, LOST, CLASH, STRIKES and MARCH: promises 17 to 21. */
final class PagesEdges {
    private static final String LAND = "r0 1;r0 2;a0 0 5;a1 1 3;";

    private PagesEdges() {
    }

    static void all() {
        readingsOfNoneAndAll();
        readingsByDeed();
        readingsWhereOneIsBroken();
        lostRefused();
        lostSentences();
        clashOfNone();
        clashPairs();
        clashOfOneDayAndDuke();
        clashFirstTwo();
        leastRefused();
        leastOfNoneAndAll();
        leastOfSeveral();
        leastBrokenOrClash();
        marchRefused();
        marchDays();
        marchOfOneThatIsGone();
        marchAsksNoOther();
        nothingIsChanged();
    }

    /** DUKE 0 marches to 1 and fights there, DUKE 1 rests. */
    private static ChronicleWar dayBehind(String pages) {
        return Wars.dayOf(LAND + pages, 2, 0);
    }

    private static void readingsOfNoneAndAll() {
        Edge.sentence("READINGS: ways to take each PAGE of him (2) as of DUKE 0 or 1, by which no PAGE is BROKEN", 17);
        for (int many = 0; many <= 6; many++) {
            Edge.is("open, " + many + " of him: readings()", Due.told("p9 2 0 0;".repeat(many)).readings(), 1 << many);
            Edge.is("open, " + many + " of DUKE 0: readings()", Due.told("p9 0 0 0;".repeat(many)).readings(), 1);
            Edge.is("open, " + many + " of DUKE 1: readings()", Due.told("p9 1 2 0;".repeat(many)).readings(), 1);
            Edge.is("behind, " + many + " of him: readings()", dayBehind("p1 2 0 1;".repeat(many)).readings(), 1);
            Edge.is("behind, " + many + " fights: readings()", dayBehind("p1 2 1 1;".repeat(many)).readings(), 1 << many);
        }
        Edge.is("new: readings()", Wars.fresh().readings(), 1);
    }

    private static void readingsByDeed() {
        Edge.sentence("(MARCHES, RESTS as of that DUKE)", 17);
        Edge.is("one marched: readings()", dayBehind("p1 2 0 1;").readings(), 1);
        Edge.is("none marched there: readings()", dayBehind("p1 2 0 2;").readings(), 0);
        Edge.is("one rested: readings()", dayBehind("p1 2 2 1;").readings(), 1);
        Edge.is("both rested: readings()", Wars.dayOf("p1 2 2 0;", 0, 0).readings(), 2);
        Edge.is("both marched: readings()", Wars.dayOf("r0 1;r0 2;a0 0 1;a1 2 1;p1 2 2 0;", 2, 9).readings(), 0);
        Edge.is("both marched there: readings()", Wars.dayOf("r0 1;r1 2;a0 0 1;a1 2 1;p1 2 0 1;", 2, 10).readings(), 2);
        Edge.is("they fought: readings()", dayBehind("p1 2 1 1;").readings(), 2);
        Edge.is("they did not fight: readings()", dayBehind("p1 2 1 0;").readings(), 0);
    }

    private static void readingsWhereOneIsBroken() {
        Edge.sentence("by which no PAGE is BROKEN", 17);
        Edge.is("of DUKE 0: readings()", dayBehind("p1 0 2 0;p9 2 0 0;p9 2 0 0;").readings(), 0);
        Edge.is("of DUKE 1: readings()", dayBehind("p9 2 0 0;p1 1 0 1;").readings(), 0);
        Edge.is("FULFILLED: readings()", dayBehind("p9 2 0 0;p1 1 2 1;p1 0 0 1;p1 2 0 1;p1 2 1 1;").readings(), 4);
        Edge.is("that CLASH: readings()", Due.told("p1 0 0 0;p1 0 2 0;p1 2 0 0;").readings(), 2);
    }

    private static void lostRefused() {
        Edge.sentence("LOST. BAD (a DAY that did not go by, too).", 18);
        for (int today = 1; today <= 10; today++) {
            ChronicleWar war = new ChronicleWar();
            Due.days(war, today - 1);
            for (int d = -1; d <= 11; d++) {
                Edge.is("on DAY " + today + ": lost(" + d + ")", war.lost(d), d >= 1 && d < today ? 2 : Edge.BAD);
            }
        }
        Edge.range("over: lost(#)", 1, 9, Edge.BAD, Wars::over, (war, d) -> war.lost(d));
        Edge.range("lost(#)", 1, 1, Edge.BAD, Wars::busy, (war, d) -> war.lost(d));
    }

    private static void lostSentences() {
        Edge.sentence("how many sentences (DUKE 0, 1; MARCHES, FIGHTS to or at each FIELD, RESTS once each) would be FULFILLED of it.", 18);
        String land = "f8;r0 7;r6 7;a0 0 1;a1 6 1;";
        Edge.is("both rest: lost(1)", Wars.dayOf(land, 0, 0).lost(1), 2);
        Edge.is("one marches: lost(1)", Wars.dayOf(land, 8, 0).lost(1), 2);
        Edge.is("both march and fight at FIELD 7: lost(1)", Wars.dayOf(land, 8, 16).lost(1), 4);
        Edge.is("they fight at FIELD 0: lost(1)", Wars.dayOf("f2;a0 0 1;a1 0 1;", 0, 0).lost(1), 4);
        String three = "f8;r0 1;r1 2;a0 0 9;a0 3 1;a0 7 1;a1 2 9;a1 3 1;a1 7 1;";
        Edge.is("they fight at three: lost(1)", Wars.dayOf(three, 2, 26).lost(1), 8);
        ChronicleWar war = Wars.dayOf("f2;p9 0 0 0;p1 0 0 0;a0 0 1;a1 0 1;", 0, 0);
        war.day();
        Edge.is("each DAY by itself: lost(1)", war.lost(1), 4);
        Edge.is("each DAY by itself: lost(2)", war.lost(2), 2);
    }

    private static void clash(String pages, int due) {
        Edge.is("clash() of " + pages, Due.told(pages).clash(), due);
    }

    private static void clashOfNone() {
        Edge.sentence("CLASH; NONE.", 19);
        clash("", Edge.NONE);
        clash("p1 0 0 0;", Edge.NONE);
        clash("p1 0 0 0;p2 0 0 1;p3 0 0 2;p4 0 2 0;p5 0 0 3;p6 0 2 0;", Edge.NONE);
        Edge.is("new: clash()", Wars.fresh().clash(), Edge.NONE);
    }

    private static void clashPairs() {
        Edge.sentence("that can't both be: RESTS with MARCHES, MARCHES to unlike FIELDS; NONE.", 19);
        for (int w = 0; w <= 2; w++) {
            for (int v = 0; v <= 2; v++) {
                for (int f = 0; f <= 3; f++) {
                    boolean isRest = w == 0 && v == 2 || w == 2 && v == 0;
                    boolean isUnlike = w == 0 && v == 0 && f != 1;
                    clash("p3 1 " + w + " 1;p3 1 " + v + " " + f + ";", isRest || isUnlike ? 1 : Edge.NONE);
                }
            }
        }
    }

    private static void clashOfOneDayAndDuke() {
        Edge.sentence("of one DAY and one DUKE (not him)", 19);
        for (int x = 0; x <= 2; x++) {
            for (int y = 0; y <= 2; y++) {
                int due = x == y && x != 2 ? 1 : Edge.NONE;
                clash("p9 " + x + " 0 1;p9 " + y + " 0 2;", due);
                clash("p9 " + x + " 0 1;p9 " + y + " 2 1;", due);
                clash("p9 " + x + " 0 1;p8 " + y + " 0 2;", Edge.NONE);
                clash("p1 " + x + " 2 1;p2 " + y + " 0 1;", Edge.NONE);
            }
        }
        Edge.is("of a DAY gone by: clash()", dayBehind("p1 0 0 1;p1 0 2 1;").clash(), 1);
        Edge.is("over: clash()", pageDays("p9 0 0 1;p9 0 2 1;", 9).clash(), 1);
    }

    private static ChronicleWar pageDays(String pages, int days) {
        ChronicleWar war = Due.told(pages);
        Due.days(war, days);
        return war;
    }

    private static void clashFirstTwo() {
        Edge.sentence("CLASH: the first two PAGES (10 times the lesser and the other one)", 19);
        for (int j = 0; j < 6; j++) {
            for (int k = j + 1; k < 6; k++) {
                StringBuilder s = new StringBuilder();
                for (int i = 0; i < 6; i++) {
                    s.append(i == j ? "p9 1 0 1;" : i == k ? "p9 1 2 1;" : "p" + (i + 1) + " 0 0 0;");
                }
                clash(s.toString(), 10 * j + k);
            }
        }
        clash("p1 0 0 0;p1 0 0 1;p1 0 0 2;", 1);
        clash("p1 0 0 0;p2 0 0 0;p2 0 0 1;p1 0 0 1;", 3);
        clash("p1 0 0 0;p1 0 0 0;p1 0 0 0;p1 0 0 0;p1 0 0 0;p1 0 2 0;", 5);
        clash("p1 2 0 0;p1 0 0 0;p1 2 2 0;p1 1 2 0;p1 1 0 0;p1 0 2 0;", 15);
    }

    private static void leastIs(String call, ChronicleWar war, int many, int which) {
        Edge.is(call + " least(0)", war.least(0), many);
        Edge.is(call + " least(1)", war.least(1), which);
    }

    private static void leastRefused() {
        Edge.sentence("STRIKES: how many (what = 0), which (1). BAD.", 20);
        Edge.range("least(#)", 0, 1, Edge.BAD, Wars::busy, (war, what) -> war.least(what));
        Edge.range("over: least(#)", 0, 1, Edge.BAD, Wars::over, (war, what) -> war.least(what));
        Edge.range("new: least(#)", 0, 1, Edge.BAD, Wars::fresh, (war, what) -> war.least(what));
    }

    private static void leastOfNoneAndAll() {
        Edge.sentence("STRIKES: the fewest PAGES to be struck so that none is BROKEN and none two CLASH: how many; which (bits)", 20);
        leastIs("new:", Wars.fresh(), 0, 0);
        for (int many = 1; many <= 6; many++) {
            leastIs("open, " + many, Due.told(Wars.pages(many)), 0, 0);
            leastIs("BROKEN, " + many, pageDays(Wars.pages(many), 1), many, (1 << many) - 1);
            leastIs("FULFILLED, " + many, pageDays("p1 0 2 0;".repeat(many), 1), 0, 0);
        }
        for (int k = 0; k < 6; k++) {
            StringBuilder s = new StringBuilder();
            for (int i = 0; i < 6; i++) {
                s.append(i == k ? "p1 1 0 0;" : "p1 1 2 0;");
            }
            leastIs("one BROKEN, " + k, pageDays(s.toString(), 1), 1, 1 << k);
            leastIs("one CLASHES, " + k, Due.told(s.toString()), 1, 1 << k);
        }
    }

    private static void leastOfSeveral() {
        Edge.sentence("which (bits), of several the least.", 20);
        leastIs("first of two", Due.told("p1 0 0 0;p1 0 2 0;"), 1, 1);
        leastIs("first of two", Due.told("p1 0 2 0;p1 0 0 0;"), 1, 1);
        leastIs("the last two", Due.told("p9 0 0 0;p9 0 0 0;p9 0 0 0;p9 0 0 0;p1 0 0 0;p1 0 2 0;"), 1, 16);
        leastIs("two and two", Due.told("p1 0 0 0;p1 0 2 0;p1 1 0 0;p1 1 2 0;"), 2, 5);
        leastIs("two alike and two alike", Due.told("p1 0 0 0;p1 0 2 0;p1 0 0 0;p1 0 2 0;"), 2, 5);
        leastIs("otherwise about", Due.told("p1 0 0 0;p1 0 2 0;p1 0 2 0;p1 0 0 0;"), 2, 6);
        leastIs("three and three", Due.told("p1 0 0 0;p1 0 0 0;p1 0 0 0;p1 0 0 1;p1 0 0 1;p1 0 0 1;"), 3, 7);
        leastIs("all unlike", Due.told("f8;p1 0 0 0;p1 0 0 1;p1 0 0 2;p1 0 0 3;p1 0 0 4;p1 0 0 5;"), 5, 31);
    }

    private static void leastBrokenOrClash() {
        Edge.sentence("so that none is BROKEN and none two CLASH", 20);
        leastIs("the BROKEN one of two", dayBehind("p1 0 0 1;p1 0 2 1;"), 1, 2);
        leastIs("both BROKEN", dayBehind("p1 0 0 2;p1 0 0 0;"), 2, 3);
        leastIs("one BROKEN, two CLASH", dayBehind("p9 0 0 2;p1 1 0 0;p9 0 0 1;"), 2, 3);
        leastIs("him, either, does not CLASH", Due.told("p1 2 0 0;p1 2 2 0;p1 0 0 1;"), 0, 0);
        leastIs("him, either, BROKEN", dayBehind("p1 2 0 2;p1 2 0 1;p1 2 2 0;p1 2 1 2;"), 2, 9);
    }

    private static void marchRefused() {
        Edge.sentence("MARCH; NONE. BAD.", 21);
        Edge.range("march(#, 0)", 0, 3, Edge.BAD, Wars::busy, (war, a) -> war.march(a, 0));
        Edge.range("march(0, #)", 0, 7, Edge.BAD, Wars::busy, (war, f) -> war.march(0, f));
        Edge.changesNothing("new: march(0, 0)", Wars::fresh, war -> war.march(0, 0), Edge.BAD);
        for (int many = 1; many <= 6; many++) {
            String text = Wars.armies(many, 1);
            Edge.range("of " + many + ": march(#, 0)", 0, many - 1, Edge.BAD, () -> Due.told(text), (war, a) -> war.march(a, 0));
        }
        for (int n = 2; n <= 8; n++) {
            String text = "f" + n + ";a0 0 1;";
            Edge.range("among " + n + ": march(0, #)", 0, n - 1, Edge.BAD, () -> Due.told(text), (war, f) -> war.march(0, f));
        }
    }

    private static void marchDays() {
        Edge.sentence("the fewest DAYS it takes by ROADS", 21);
        for (int n = 2; n <= 8; n++) {
            StringBuilder row = new StringBuilder("f" + n + ";");
            for (int f = 0; f + 1 < n; f++) {
                row.append("r").append(f + 1).append(' ').append(f).append(';');
            }
            ChronicleWar first = Due.told(row + "a0 0 1;");
            ChronicleWar last = Due.told(row + "a1 " + (n - 1) + " 1;");
            ChronicleWar ring = Due.told(row + "r0 " + (n - 1) + ";a0 0 1;");
            ChronicleWar none = Due.told("f" + n + ";a0 0 1;");
            for (int f = 0; f < n; f++) {
                Edge.is("a row of " + n + ": march(0, " + f + ")", first.march(0, f), f);
                Edge.is("a row of " + n + ", from its end: march(0, " + f + ")", last.march(0, f), n - 1 - f);
                Edge.is("a ring of " + n + ": march(0, " + f + ")", ring.march(0, f), Math.min(f, n - f));
                Edge.is("without ROADS: march(0, " + f + ")", none.march(0, f), f == 0 ? 0 : Edge.NONE);
            }
        }
        ChronicleWar two = Due.told("f8;r0 1;r1 2;r2 3;r4 5;r5 6;r6 7;a0 0 1;a0 7 1;");
        Edge.is("within its part: march(0, 3)", two.march(0, 3), 3);
        Edge.is("to the other part: march(0, 4)", two.march(0, 4), Edge.NONE);
        Edge.is("within its part: march(1, 4)", two.march(1, 4), 3);
        Edge.is("to the other part: march(1, 3)", two.march(1, 3), Edge.NONE);
    }

    private static void marchOfOneThatIsGone() {
        Edge.sentence("MARCH of an ARMY (one that is gone, too) to a FIELD", 21);
        ChronicleWar war = Wars.dayOf("r0 1;r1 2;a0 0 1;a1 1 2;", 2, 0);
        Edge.is("gone: army(0, 2)", war.army(0, 2), 0);
        Edge.is("gone: march(0, 1)", war.march(0, 1), 0);
        Edge.is("gone: march(0, 2)", war.march(0, 2), 1);
        Edge.is("gone: march(0, 3)", war.march(0, 3), Edge.NONE);
        Due.days(war, 8);
        Edge.is("over: march(0, 0)", war.march(0, 0), 1);
        Edge.is("over: march(1, 2)", war.march(1, 2), 1);
    }

    private static void marchAsksNoOther() {
        Edge.sentence("by ROADS (no other ARMY is asked); NONE.", 21);
        ChronicleWar war = Due.told("r0 1;r1 2;r2 3;a0 0 1;a1 1 9;a1 2 9;a0 1 9;");
        for (int f = 0; f < 4; f++) {
            Edge.is("through the others: march(0, " + f + ")", war.march(0, f), f);
        }
        war.orders(0, 2);
        Edge.is("with an ORDER: march(0, 3)", war.march(0, 3), 3);
    }

    private static void nothingIsChanged() {
        Edge.sentence("(Nothing is changed.)", 17, 18, 19, 20, 21);
        Edge.changesNothing("readings()", Wars::busy, war -> war.readings(), 4);
        Edge.changesNothing("lost(1)", Wars::busy, war -> war.lost(1), 4);
        Edge.changesNothing("clash()", Wars::busy, war -> war.clash(), Edge.NONE);
        Edge.changesNothing("least(0)", Wars::busy, war -> war.least(0), 0);
        Edge.changesNothing("over: least(1)", Wars::over, war -> war.least(1), 30);
        Edge.changesNothing("march(0, 3)", Wars::busy, war -> war.march(0, 3), 2);
    }
}
