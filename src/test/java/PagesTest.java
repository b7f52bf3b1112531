/** Promises 17 to 21: READINGS, LOST, CLASH, STRIKES, MARCH. */
final class PagesTest {
    public static void main(String[] args) {
        readings();
        lost();
        clash();
        least();
        march();
        Due.end();
    }

    /** DUKE 0 marches to 1 and fights there, DUKE 1 rests; then nobody marches. */
    private static ChronicleWar dayBehind(String pages) {
        ChronicleWar war = Due.told("r0 1;r0 2;a0 0 5;a1 1 3;" + pages);
        war.orders(0, 2);
        war.day();
        return war;
    }

    private static void readings() {
        Due.is("readings() of none", new ChronicleWar().readings(), 1);
        Due.is("readings() open", Due.told("p1 2 0 0;p1 2 1 0;p1 2 2 0;p1 0 2 0;p1 0 0 0;").readings(), 8);
        Due.is("readings() of six", Due.told("p1 2 0 0;".repeat(6)).readings(), 64);
        Due.is("readings() marches", dayBehind("p1 2 0 1;").readings(), 1);
        Due.is("readings() marches elsewhere", dayBehind("p1 2 0 2;").readings(), 0);
        Due.is("readings() fights", dayBehind("p1 2 1 1;").readings(), 2);
        Due.is("readings() fights elsewhere", dayBehind("p1 2 1 2;").readings(), 0);
        Due.is("readings() rests", dayBehind("p1 2 2 2;").readings(), 1);
        Due.is("readings() of a DUKE", dayBehind("p1 0 0 1;").readings(), 1);
        Due.is("readings() of a DUKE, broken", dayBehind("p1 1 0 1;p2 2 0 0;").readings(), 0);
        Due.is("readings() of several", dayBehind("p1 2 0 1;p1 2 1 1;p2 2 0 0;p1 1 2 0;").readings(), 4);
        ChronicleWar war = dayBehind("p2 2 2 0;");
        war.day();
        Due.is("readings() where both rest", war.readings(), 2);
    }

    private static void lost() {
        ChronicleWar war = Due.told("f8;r0 1;r2 1;a0 0 5;a1 2 3;a0 7 1;a1 7 9;");
        Due.is("lost(1) on day 1", war.lost(1), ChronicleWar.BAD);
        war.orders(0, 2);
        war.orders(1, 10);
        war.day();
        war.day();
        Due.is("lost(1)", war.lost(1), 6);
        Due.is("lost(2)", war.lost(2), 2);
        Due.is("lost(3)", war.lost(3), ChronicleWar.BAD);
        Due.is("lost(0)", war.lost(0), ChronicleWar.BAD);
        Due.is("lost(-1)", war.lost(-1), ChronicleWar.BAD);
        Due.days(war, 7);
        Due.is("lost(9)", war.lost(9), 2);
        Due.is("lost(10)", war.lost(10), ChronicleWar.BAD);
    }

    private static void clash(String pages, int due) {
        Due.is("clash() of " + pages, Due.told(pages).clash(), due);
    }

    private static void clash() {
        clash("", ChronicleWar.NONE);
        clash("p1 0 2 0;p1 0 0 1;", 1);
        clash("p1 1 0 1;p1 1 2 0;", 1);
        clash("p1 0 0 1;p1 0 0 2;", 1);
        clash("p1 0 0 1;p1 0 0 1;", ChronicleWar.NONE);
        clash("p1 0 2 1;p1 0 2 2;", ChronicleWar.NONE);
        clash("p1 0 0 1;p2 0 0 2;", ChronicleWar.NONE);
        clash("p1 0 0 1;p1 1 0 2;", ChronicleWar.NONE);
        clash("p1 2 0 1;p1 2 0 2;", ChronicleWar.NONE);
        clash("p1 2 2 1;p1 0 0 2;", ChronicleWar.NONE);
        clash("p1 0 1 1;p1 0 1 2;", ChronicleWar.NONE);
        clash("p1 0 1 1;p1 0 0 2;p1 0 1 3;", ChronicleWar.NONE);
        clash("p1 0 1 1;p1 0 2 2;", ChronicleWar.NONE);
        clash("p3 0 0 0;p1 0 2 0;p2 1 0 0;p2 1 0 1;p1 0 0 0;", 14);
        clash("p1 0 0 0;p2 0 0 0;p3 0 0 0;p4 0 0 0;p5 0 0 0;p5 0 2 0;", 45);
        Due.is("clash() of a DAY that went by", dayBehind("p1 0 0 1;p1 0 2 1;").clash(), 1);
    }

    private static void least(ChronicleWar war, int many, int which) {
        Due.is("least(0)", war.least(0), many);
        Due.is("least(1)", war.least(1), which);
    }

    private static void least() {
        least(new ChronicleWar(), 0, 0);
        least(Due.told("p1 0 2 0;p1 0 0 1;"), 1, 1);
        least(Due.told("p1 0 0 1;p1 0 2 0;p1 0 2 0;"), 1, 1);
        least(Due.told("p1 0 2 0;p1 0 2 0;p1 0 0 1;"), 1, 4);
        least(Due.told("p1 0 0 0;p1 0 0 1;p1 0 0 2;p1 0 0 3;p1 0 2 0;p1 0 1 0;"), 4, 15);
        least(Due.told("p1 2 2 0;p1 2 0 1;"), 0, 0);
        least(dayBehind("p1 0 0 1;p1 0 2 1;p1 2 0 1;p1 2 0 2;p1 1 1 1;p2 0 0 3;"), 2, 10);
        least(dayBehind("p1 0 2 0;p1 1 0 1;p1 2 0 0;p1 0 1 0;p1 1 0 2;p1 0 0 2;"), 6, 63);
        least(dayBehind("p1 0 2 0;p1 0 0 1;p2 0 0 1;p2 0 2 1;"), 2, 5);
        Due.is("least(2)", new ChronicleWar().least(2), ChronicleWar.BAD);
        Due.is("least(-1)", new ChronicleWar().least(-1), ChronicleWar.BAD);
    }

    private static void march() {
        ChronicleWar war = Due.told("f8;r0 1;r1 2;r2 3;r3 4;r4 5;r5 6;r0 2;a0 0 1;a1 6 9;a1 7 2;a1 0 3;");
        int[] due = {0, 1, 1, 2, 3, 4, 5, ChronicleWar.NONE};
        for (int f = 0; f < 8; f++) {
            Due.is("march(0, " + f + ")", war.march(0, f), due[f]);
        }
        Due.is("march(1, 0)", war.march(1, 0), 5);
        Due.is("march(2, 7)", war.march(2, 7), 0);
        Due.is("march(2, 0)", war.march(2, 0), ChronicleWar.NONE);
        war.day();
        Due.is("army(0, 2)", war.army(0, 2), 0);
        Due.is("march(0, 6) of one that is gone", war.march(0, 6), 5);
        Due.days(war, 8);
        Due.is("march(0, 6) when the war is over", war.march(0, 6), 5);
        Due.is("march(4, 0)", war.march(4, 0), ChronicleWar.BAD);
        Due.is("march(-1, 0)", war.march(-1, 0), ChronicleWar.BAD);
        Due.is("march(0, 8)", war.march(0, 8), ChronicleWar.BAD);
        Due.is("march(0, -1)", war.march(0, -1), ChronicleWar.BAD);
        ChronicleWar row = Due.told("f8;r0 1;r1 2;r2 3;r3 4;r4 5;r5 6;r6 7;a0 0 1;");
        Due.is("march(0, 7) of a row", row.march(0, 7), 7);
    }
}
