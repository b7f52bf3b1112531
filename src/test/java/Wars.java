/** Wars in which a call that is refused would be seen, if it changed something. */
final class Wars {
    private Wars() {
    }

    static ChronicleWar fresh() {
        return new ChronicleWar();
    }

    /** DAY 2 behind a battle, both with ORDERS, both IMAGES kept, ten steps known and one lost. */
    static ChronicleWar busy() {
        ChronicleWar war = Due.told("f8;r0 1;r1 2;r2 3;r0 7;a0 0 5;a1 2 3;a0 1 4;a1 3 9;"
            + "p1 0 0 1;p2 2 1 2;p3 1 2 0;p9 2 0 7;");
        war.rate(3, 0);
        war.keep(0);
        war.orders(0, 2);
        war.orders(1, 10);
        war.day();
        war.writes(4, 0, 0, 1);
        war.keep(1);
        war.strikes(2);
        war.orders(0, 8 * 2 + 0 + 1);
        war.orders(1, 0);
        war.orders(0, 0);
        war.orders(1, 8 * 3 + 2 + 1);
        war.writes(9, 1, 1, 7);
        war.orders(0, 1);
        Due.type(war, "f3;r0 1;");
        return war;
    }

    /** The same with six PAGES. */
    static ChronicleWar sixPages() {
        ChronicleWar war = busy();
        war.writes(2, 0, 2, 0);
        return war;
    }

    /** The same with a TEXT of 200 letters. */
    static ChronicleWar longText() {
        ChronicleWar war = busy();
        Due.type(war, " ".repeat(200 - war.count(3)));
        return war;
    }

    /** The same on DAY 10. */
    static ChronicleWar over() {
        ChronicleWar war = busy();
        Due.days(war, 8);
        return war;
    }

    /** So many ARMIES of DUKE 0 at FIELD 0, with so many TROOPS each. */
    static String armies(int many, int troops) {
        return ("a0 0 " + troops + ";").repeat(many);
    }

    static String pages(int many) {
        return "p1 0 0 0;".repeat(many);
    }

    /** All ROADS that there can be among so many FIELDS. */
    static String allRoads(int fields) {
        StringBuilder s = new StringBuilder();
        for (int a = 0; a < fields; a++) {
            for (int b = a + 1; b < fields; b++) {
                s.append('r').append(a).append(' ').append(b).append(';');
            }
        }
        return s.toString();
    }

    /** DUKES 0 and 1 march by these ORDERS, and a DAY goes by. */
    static ChronicleWar dayOf(String text, int order0, int order1) {
        ChronicleWar war = Due.told(text);
        Edge.is("orders(0, " + order0 + ")", war.orders(0, order0), 1);
        Edge.is("orders(1, " + order1 + ")", war.orders(1, order1), 1);
        war.day();
        return war;
    }
}
