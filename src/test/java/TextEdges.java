/** Boundary cases of THE TEXT and of its FAULTS: promises 2 to 4. */
final class TextEdges {
    private static final int MAX_NUMBER = 130;

    private TextEdges() {
    }

    static void all() {
        letters();
        lettersAtMost();
        clear();
        emptyText();
        items();
        allAnew();
        nothingChanges();
        firstAndLastPlace();
        fields();
        fieldsFirst();
        roadsUnlike();
        roadsToldAgain();
        armies();
        pages();
        fieldsThatThereAre();
        sevenths();
        otherLetters();
        otherTokens();
        numbersAbove99();
        zerosAhead();
        endsTooEarly();
        blanks();
    }

    private static void letters() {
        Edge.sentence("A letter (0 .. 255) comes to THE TEXT: how many it has. BAD; FULL.", 2);
        Edge.range("type(#)", 0, 255, Edge.BAD, Wars::busy, (war, n) -> war.type(n));
        ChronicleWar war = new ChronicleWar();
        for (int letter = 255; letter > 55; letter--) {
            Edge.is("type(" + letter + ")", war.type(letter), 256 - letter);
        }
        war = new ChronicleWar();
        for (int letter = 0; letter <= 55; letter++) {
            Edge.is("type(" + letter + ")", war.type(letter), letter + 1);
        }
    }

    private static void lettersAtMost() {
        Edge.sentence("They are a text (200 letters at most)", 2);
        ChronicleWar war = new ChronicleWar();
        Due.type(war, " ".repeat(198));
        Edge.is("the 199th: type(32)", war.type(32), 199);
        Edge.is("the 200th: type(32)", war.type(32), 200);
        Edge.is("the 201st: type(32)", war.type(32), Edge.FULL);
        Edge.changesNothing("the 201st: type(120)", Wars::longText, w -> w.type('x'), Edge.FULL);
        Edge.changesNothing("the 201st: type(0)", Wars::longText, w -> w.type(0), Edge.FULL);
        Edge.changesNothing("the 201st: type(255)", Wars::longText, w -> w.type(255), Edge.FULL);
        war.clear();
        Edge.is("type(32) behind clear()", war.type(32), 1);
        war = Wars.longText();
        war.land();
        Edge.is("type(32) behind land()", war.type(32), 1);
        Edge.sentence("Refused, and nothing changes, the first of these: BAD", 2);
        Edge.changesNothing("the 201st: type(256)", Wars::longText, w -> w.type(256), Edge.BAD);
        Edge.changesNothing("the 201st: type(-1)", Wars::longText, w -> w.type(-1), Edge.BAD);
    }

    private static void clear() {
        Edge.sentence("THE TEXT is empty: how many letters it had.", 3);
        int[] lengths = {0, 1, 199, 200};
        for (int length : lengths) {
            ChronicleWar war = new ChronicleWar();
            Due.type(war, "x".repeat(length));
            Edge.is("clear() of " + length, war.clear(), length);
            Edge.is("count(3) behind clear()", war.count(3), 0);
            Edge.is("clear() again", war.clear(), 0);
            Edge.is("land() behind clear()", war.land(), 0);
        }
        ChronicleWar war = Wars.busy();
        war.clear();
        Edge.is("whether all else is as it was", Seen.ofNow(war).equals(Seen.ofNow(Wars.busy())) ? 1 : 0, 1);
        Edge.is("trace()", war.trace(), Wars.busy().trace());
        Due.type(war, "f2;");
        Edge.is("land() of what is told behind clear()", war.land(), 1);
    }

    private static void emptyText() {
        Edge.sentence("THE TEXT tells all anew, and is empty then: how many ITEMS.", 4);
        Edge.land("", 0);
        Edge.land(" ", 0);
        Edge.land(" ".repeat(200), 0);
        ChronicleWar war = Wars.busy();
        war.clear();
        Edge.is("land() of none", war.land(), 0);
        Edge.is("whether all is as in a new one", Seen.ofNow(war).equals(Seen.ofNow(Wars.fresh())) ? 1 : 0, 1);
    }

    private static void items() {
        Edge.sentence("THE TEXT tells all anew, and is empty then: how many ITEMS.", 4);
        for (int many = 1; many <= 40; many++) {
            Edge.land("r0 1;".repeat(many), many);
        }
        Edge.land("f2;" + "r0 1;".repeat(39), 40);
        Edge.land("f8;" + Wars.armies(6, 9) + Wars.pages(6), 13);
        ChronicleWar war = Due.told("f2;");
        Edge.is("land() again", war.land(), 0);
        Edge.is("count(0) again", war.count(0), 4);
    }

    private static void allAnew() {
        Edge.sentence("(Read anew: as told, IMAGES are gone.)", 4, 24);
        String text = "f5;r0 4;a1 4 2;p3 2 2 4;";
        ChronicleWar war = Wars.over();
        war.clear();
        Due.type(war, text);
        Edge.is("land()", war.land(), 4);
        boolean isAsTold = Seen.ofNow(war).equals(Seen.ofNow(Due.told(text)));
        Edge.is("whether all is as told to a new one", isAsTold ? 1 : 0, 1);
        Edge.is("undo()", war.undo(), Edge.STATE);
        Edge.is("back(0)", war.back(0), Edge.STATE);
        Edge.is("back(1)", war.back(1), Edge.STATE);
        war.day();
        Edge.is("written(1, 0)", war.written(1, 0), Edge.NONE);
        Edge.is("written(1, 2)", war.written(1, 2), 0);
        Edge.is("now(5)", war.now(5), 1);
        Edge.is("keep(1)", war.keep(1), 2);
        Edge.is("back(0) with the other one kept anew", war.back(0), Edge.STATE);
    }

    private static void nothingChanges() {
        Edge.sentence("-10 less FAULT: nothing changes.", 4);
        String text = "f2;r0 1;a1 1 9;p1 0 0 1;";
        Edge.changesNothing("land() with a FAULT at the end", () -> busyWith(text + "x"), war -> war.land(), -10 - 24);
        Edge.changesNothing("land() too short", () -> busyWith(text + "r0 1"), war -> war.land(), -10 - 28);
        Edge.changesNothing("land() with a FAULT at once", () -> busyWith("x" + text), war -> war.land(), -10);
        ChronicleWar war = busyWith(text + "p1 0 0");
        Edge.is("land() too short", war.land(), -10 - 30);
        Edge.is("land() again", war.land(), -10 - 30);
        Due.type(war, " 1;");
        Edge.is("land() of the same text, ended", war.land(), 5);
        Edge.is("count(2)", war.count(2), 2);
    }

    private static ChronicleWar busyWith(String text) {
        ChronicleWar war = Wars.busy();
        war.clear();
        Due.type(war, text);
        return war;
    }

    private static void firstAndLastPlace() {
        Edge.sentence("FAULT: the place of the first letter of the first TOKEN that can't stand there", 4);
        Edge.land(";", -10);
        Edge.land(";;", -10);
        Edge.land(" ".repeat(199) + ";", -10 - 199);
        Edge.land(" ".repeat(199) + "r", -10 - 200);
        Edge.land("r0 1;".repeat(40), 40);
        Edge.land("r0 1;".repeat(39) + "r0 1 ", -10 - 200);
        Edge.land("r0 1;".repeat(39) + "r0 10", -10 - 198);
        Edge.land("f99;x", -10 - 1);
        Edge.land("f4;x f4;", -10 - 3);
        Edge.land("r0 0;r4 0;x", -10 - 3);
        Edge.land("a0 0 1;  a0 0 12;", -10 - 14);
    }

    /** The NUMBER between these is taken from first to last; any other one is the FAULT. */
    private static void numbers(String ahead, String behind, int first, int last, int items) {
        for (int number = 0; number <= MAX_NUMBER; number++) {
            boolean isTaken = number >= first && number <= last;
            Edge.land(ahead + number + behind, isTaken ? items : -10 - ahead.length());
        }
    }

    private static void fields() {
        Edge.sentence("FIELDS 0 .. n - 1 (n 2 ..", 4, 5);
        numbers("f", ";", 2, 8, 1);
        numbers(" f  ", " ;", 2, 8, 1);
        for (int n = 2; n <= 8; n++) {
            String text = "f" + n + ";";
            Edge.is("count(0) of " + n, Due.told(text).count(0), n);
            Edge.range("of " + n + ": roads(#)", 0, n - 1, Edge.BAD, () -> Due.told(text), (war, f) -> war.roads(f));
        }
        Edge.sentence("8; 4 at first), ROADS between two each.", 1, 4);
        Edge.is("new: count(0)", Wars.fresh().count(0), 4);
        Edge.is("count(0) where none is told", Due.told("r0 3;").count(0), 4);
        ChronicleWar war = Due.told("f8;");
        Due.type(war, "a0 3 1;");
        war.land();
        Edge.is("count(0) where none is told, behind 8", war.count(0), 4);
        Edge.land("r0 4;", -10 - 3);
    }

    private static void fieldsFirst() {
        Edge.sentence("f N (the first of all, if it is told)", 4);
        Edge.land("f3;r0 1;", 2);
        Edge.land("    f3;", 1);
        Edge.sentence("f behind another ITEM", 4);
        Edge.land("f4;f4;", -10 - 3);
        Edge.land("r0 1;f4;", -10 - 5);
        Edge.land("a0 0 1; f4;", -10 - 8);
        Edge.land("p1 0 0 0;f", -10 - 9);
        Edge.land("f8;r0 1;f8;", -10 - 8);
    }

    private static void roadsUnlike() {
        Edge.sentence("r A B (unlike; told again: as it is)", 4);
        Edge.sentence("a B that is A", 4);
        for (int n = 2; n <= 8; n++) {
            for (int a = 0; a < n; a++) {
                for (int b = 0; b < n; b++) {
                    Edge.land("f" + n + ";r" + a + " " + b + ";", a == b ? -10 - 6 : 2);
                }
            }
        }
        Edge.land("r3 3", -10 - 3);
    }

    private static void roadsToldAgain() {
        Edge.sentence("r A B (unlike; told again: as it is)", 4, 5);
        String[] texts = {"f2;r0 1;", "f2;r1 0;", "f2;r0 1;r0 1;", "f2;r0 1;r1 0;", "f2;r1 0;r1 0;r0 1;r0 1;"};
        for (String text : texts) {
            ChronicleWar war = Due.told(text);
            Edge.is(text + " roads(0)", war.roads(0), 2);
            Edge.is(text + " roads(1)", war.roads(1), 1);
        }
        Edge.land("r0 1;r0 1;", 2);
    }

    private static void armies() {
        Edge.sentence("of a DUKE, at a FIELD, with TROOPS (1 .. 9).", 4);
        numbers("a", " 0 1;", 0, 1, 1);
        numbers("a1 ", " 1;", 0, 3, 1);
        numbers("a1 3 ", ";", 1, 9, 1);
        for (int troops = 1; troops <= 9; troops++) {
            Edge.is("army(0, 2)", Due.told("a0 0 " + troops + ";").army(0, 2), troops);
        }
        Edge.sentence("ARMIES 0 .. (6 at most)", 4, 6);
        for (int many = 0; many <= 6; many++) {
            String text = Wars.armies(many, 1);
            Edge.land(text, many);
            Edge.is("count(1) of " + many, Due.told(text).count(1), many);
        }
        Edge.land(Wars.armies(7, 1), -10 - 42);
    }

    private static void pages() {
        Edge.sentence("a DAY (1 .. 9), WHO (a DUKE; 2: him, either), WHAT: 0 MARCHES to a FIELD, 1 FIGHTS at a FIELD, 2 RESTS", 4);
        numbers("p", " 0 0 0;", 1, 9, 1);
        numbers("p9 ", " 0 0;", 0, 2, 1);
        numbers("p9 2 ", " 0;", 0, 2, 1);
        numbers("p9 2 0 ", ";", 0, 3, 1);
        numbers("p9 2 1 ", ";", 0, 3, 1);
        Edge.sentence("2 RESTS (a FIELD is told, and means nothing).", 4, 12);
        numbers("p9 2 2 ", ";", 0, 3, 1);
        Edge.land("p9 2 2;", -10 - 6);
        Edge.sentence("PAGES 0 .. (6 at most)", 4, 7);
        for (int many = 0; many <= 6; many++) {
            String text = Wars.pages(many);
            Edge.land(text, many);
            Edge.is("count(2) of " + many, Due.told(text).count(2), many);
        }
        Edge.land(Wars.pages(7), -10 - 54);
    }

    private static void fieldsThatThereAre() {
        Edge.sentence("a FIELD that there is not", 4);
        for (int n = 2; n <= 8; n++) {
            String told = "f" + n + ";";
            numbers(told + "a0 ", " 1;", 0, n - 1, 2);
            numbers(told + "p1 0 0 ", ";", 0, n - 1, 2);
            numbers(told + "p1 0 1 ", ";", 0, n - 1, 2);
            numbers(told + "p1 0 2 ", ";", 0, n - 1, 2);
            numbers(told + "r0 ", ";", 1, n - 1, 2);
            for (int number = 1; number <= MAX_NUMBER; number++) {
                Edge.land(told + "r" + number + " 0;", number < n ? 2 : -10 - 4);
            }
        }
    }

    private static void sevenths() {
        Edge.sentence("a seventh a, a seventh p", 4);
        String six = Wars.armies(6, 1) + Wars.pages(6);
        Edge.land(six, 12);
        Edge.land(six + "r0 1;", 13);
        Edge.land(six + "a", -10 - 96);
        Edge.land(six + "p", -10 - 96);
        Edge.land(six + " a0 0 1;", -10 - 97);
        Edge.land(six + " p1 0 0 0;", -10 - 97);
        Edge.land(six + "r0 1;  a", -10 - 103);
        Edge.land(Wars.armies(5, 1) + Wars.pages(6) + "a0 0 1;", 12);
        Edge.land(Wars.armies(6, 1) + Wars.pages(5) + "p1 0 0 0;", 12);
    }

    private static boolean isTokenLetter(int letter) {
        return letter == 'f' || letter == 'r' || letter == 'a' || letter == 'p';
    }

    private static void otherLetters() {
        Edge.sentence("TOKENS are the letters f, r, a, p, NUMBERS and ; .", 4);
        Edge.sentence("of any other letter, a NUMBER above 99 or with a 0 ahead of others, that TOKEN's", 4);
        String[] ahead = {"", "r0 1;", "r", "r0", "r0 ", "r0 1 "};
        for (String told : ahead) {
            for (int letter = 0; letter <= 255; letter++) {
                boolean isDigit = letter >= '0' && letter <= '9';
                if (letter != ' ' && letter != ';' && !isDigit && !isTokenLetter(letter)) {
                    Edge.land(told + (char) letter, -10 - told.length());
                    Edge.land(told + (char) letter + "0 1;", -10 - told.length());
                }
            }
        }
        for (int letter = 0; letter <= 255; letter++) {
            int due = letter == ' ' ? 0 : isTokenLetter(letter) ? -10 - 1 : -10;
            Edge.land("" + (char) letter, due);
        }
    }

    /** Each ITEM, as far as one of its TOKENS, and there each TOKEN that can't stand there. */
    private static void otherTokens() {
        Edge.sentence("the first TOKEN that can't stand there", 4);
        String[][] items = {{"r", "0", "1", ";"}, {"a", "0", "1", "2", ";"}, {"p", "1", "0", "1", "2", ";"}};
        String[] tokens = {"f", "r", "a", "p", ";", "1", "F", "100", "01"};
        for (String[] item : items) {
            StringBuilder ahead = new StringBuilder("r0 1;");
            for (String place : item) {
                for (String token : tokens) {
                    if (!mayStand(token, place)) {
                        Edge.land(ahead + token + " 0 0 0;", -10 - ahead.length());
                    }
                }
                ahead.append(place).append(' ');
            }
        }
        for (String token : tokens) {
            Edge.land("f " + token, -12);
            Edge.land("f4 " + token, token.equals(";") ? 1 : -13);
        }
    }

    private static boolean mayStand(String token, String place) {
        switch (place) {
            case ";": return token.equals(";");
            case "r", "a", "p": return token.equals("r") || token.equals("a") || token.equals("p");
            default: return token.equals("1");
        }
    }

    private static void numbersAbove99() {
        Edge.sentence("a NUMBER above 99", 4);
        String[] numbers = {"99", "100", "101", "104", "999", "1000", "256", "260", "65540", "4294967297", "4294967300",
            "18446744073709551617", "18446744073709551620", "1".repeat(190)};
        for (String number : numbers) {
            Edge.land("f" + number + ";", -11);
            Edge.land("r" + number + " 0;", -11);
            Edge.land("a1 " + number, -13);
            Edge.land("p1 2 " + number, -15);
            Edge.land("f4 " + number, -13);
            Edge.land(number, -10);
        }
        Edge.land("f1 0;", -11);
        Edge.land("a0 0 1 0;", -17);
    }

    private static void zerosAhead() {
        Edge.sentence("or with a 0 ahead of others", 4);
        Edge.land("r0 1;", 1);
        String[] numbers = {"00", "01", "04", "09", "010", "000", "0".repeat(190), "0".repeat(189) + "4"};
        for (String number : numbers) {
            Edge.land("f" + number + ";", -11);
            Edge.land("r" + number + ";", -11);
            Edge.land("r1 " + number + ";", -13);
            Edge.land("f4 " + number, -13);
            Edge.land(number, -10);
        }
        Edge.land("r1 0;", 1);
        Edge.land("f10;", -11);
    }

    private static void endsTooEarly() {
        Edge.sentence("the text's length, if it ends too early.", 4);
        String text = "f4;r0 1;a1 2 3;p4 2 1 0;";
        int items = 0;
        boolean isWhole = true;
        for (int length = 0; length <= text.length(); length++) {
            if (length > 0) {
                isWhole = text.charAt(length - 1) == ';';
                items += isWhole ? 1 : 0;
            }
            String part = text.substring(0, length);
            Edge.land(part, isWhole ? items : -10 - length);
            Edge.land(part + "   ", isWhole ? items : -10 - length - 3);
        }
        Edge.land("f" + " ".repeat(199), -10 - 200);
    }

    private static void blanks() {
        Edge.sentence("told letter by letter, blanks (32) between TOKENS", 4);
        Edge.land("f4;r0 1;a0 0 1;p1 0 0 0;", 4);
        Edge.land("  f  4  ;  r  0  1  ;  a  0  0  1  ;  p  1  0  0  0  ;  ", 4);
        Edge.land("r1 2;", 1);
        Edge.land("r12;", -11);
        Edge.land("r1" + " ".repeat(190) + "2;", 1);
        int[] noBlanks = {0, 9, 10, 13, 31, 33, 160, 255};
        for (int letter : noBlanks) {
            Edge.land("r1" + (char) letter + "2;", -12);
            Edge.land("r1 2;" + (char) letter, -15);
        }
    }
}
