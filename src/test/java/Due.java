/** What the tests share: a land told by a text, and answers held against those that are due. */
final class Due {
    private static int wrong = 0;

    private Due() {
    }

    static void is(String call, long got, long want) {
        if (got != want) {
            wrong++;
            System.out.println(call + " answered " + got + ", due is " + want);
        }
    }

    static void type(ChronicleWar war, String text) {
        for (int i = 0; i < text.length(); i++) {
            war.type(text.charAt(i));
        }
    }

    static ChronicleWar told(String text) {
        ChronicleWar war = new ChronicleWar();
        type(war, text);
        int items = war.land();
        if (items < 0) {
            is("land() of " + text, items, 0);
        }
        return war;
    }

    static void days(ChronicleWar war, int many) {
        for (int i = 0; i < many; i++) {
            war.day();
        }
    }

    /** Ends the test: with exit code 1, if an answer was not the one that is due. */
    static void end() {
        System.out.println(wrong == 0 ? "all answers are as due" : wrong + " answers are not as due");
        if (wrong != 0) {
            System.exit(1);
        }
    }
}
