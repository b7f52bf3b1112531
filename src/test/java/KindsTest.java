/** Promises 22 to 24 and 26: RATES by KINDS, THE TRACE, IMAGES. */
final class KindsTest {
    public static void main(String[] args) {
        rates();
        ratesOfOneThatIsGone();
        ratesRefused();
        images();
        imageOfTheLastDay();
        imagesRefused();
        imagesKeepNothingElse();
        Due.end();
    }

    private static ChronicleWar threeArmies() {
        return Due.told("f6;r5 0;r5 1;r5 2;r0 1;a0 0 1;a1 1 2;a0 5 7;");
    }

    private static void rates() {
        ChronicleWar war = threeArmies();
        war.day();
        war.day();
        int[] rate = {7, 12, 4, 24, 6, 10};
        long[] trace = {1, 11, 101, 1011, 10101, 100001};
        long sum = 0;
        for (int kind = 0; kind < 6; kind++) {
            Due.is("rate(" + kind + ", 2)", war.rate(kind, 2), rate[kind]);
            sum += trace[kind];
            Due.is("trace() behind rate(" + kind + ", 2)", war.trace(), sum);
        }
        Due.is("rate(2, 0)", war.rate(2, 0), -1);
        Due.is("rate(4, 1)", war.rate(4, 1), 1);
    }

    private static void ratesOfOneThatIsGone() {
        ChronicleWar war = Due.told("r3 0;r3 1;a0 3 4;a1 3 4;");
        war.day();
        int[] rate = {0, 3, -2, 6, -1, 2};
        for (int kind = 0; kind < 6; kind++) {
            Due.is("gone: rate(" + kind + ", 1)", war.rate(kind, 1), rate[kind]);
        }
    }

    private static void ratesRefused() {
        ChronicleWar war = threeArmies();
        Due.is("rate(6, 0)", war.rate(6, 0), ChronicleWar.NO);
        Due.is("rate(-1, 0)", war.rate(-1, 0), ChronicleWar.NO);
        Due.is("rate(0, 3)", war.rate(0, 3), ChronicleWar.NO);
        Due.is("rate(0, -1)", war.rate(0, -1), ChronicleWar.NO);
        Due.is("trace()", war.trace(), 0);
        Due.is("rate(0, 0) of none", new ChronicleWar().rate(0, 0), ChronicleWar.NO);
    }

    private static void images() {
        ChronicleWar war = Due.told("r0 1;r1 2;a0 0 5;a1 2 3;p1 0 0 1;");
        Due.is("keep(0)", war.keep(0), 1);
        war.orders(0, 2);
        war.orders(1, 10);
        war.day();
        war.writes(3, 0, 2, 0);
        war.orders(0, 1);
        Due.is("keep(1)", war.keep(1), 2);
        war.strikes(0);
        war.day();
        Due.is("back(0)", war.back(0), 1);
        Due.is("army(0, 1)", war.army(0, 1), 0);
        Due.is("army(1, 2)", war.army(1, 2), 3);
        Due.is("count(2)", war.count(2), 1);
        Due.is("now(1)", war.now(1), 0);
        Due.is("now(5)", war.now(5), 0);
        Due.is("undo()", war.undo(), ChronicleWar.STATE);
        Due.is("written(1, 2)", war.written(1, 2), ChronicleWar.NO);
        war.day();
        Due.is("written(1, 2) otherwise", war.written(1, 2), 0);
        Due.is("back(1)", war.back(1), 2);
        Due.is("written(1, 2)", war.written(1, 2), 2);
        Due.is("written(1, 0)", war.written(1, 0), 1);
        Due.is("now(1)", war.now(1), 1);
        Due.is("army(0, 2)", war.army(0, 2), 2);
        Due.is("count(2)", war.count(2), 2);
        Due.is("page(1, 0)", war.page(1, 0), 3);
        Due.is("keep(0) again", war.keep(0), 2);
        Due.days(war, 8);
        Due.is("back(0) again", war.back(0), 2);
        Due.is("back(0) twice", war.back(0), 2);
        Due.days(war, 8);
        Due.is("over: keep(0)", war.keep(0), 10);
        Due.is("back(1) from the end", war.back(1), 2);
        Due.is("back(0) to the end", war.back(0), 10);
        Due.is("day()", war.day(), ChronicleWar.STATE);
    }

    private static void imageOfTheLastDay() {
        ChronicleWar war = Due.told("r0 1;r2 1;a0 0 5;a1 2 3;");
        war.keep(1);
        Due.days(war, 8);
        war.orders(0, 2);
        war.orders(1, 10);
        war.day();
        war.keep(0);
        war.back(1);
        Due.days(war, 9);
        Due.is("written(9, 2) without a battle", war.written(9, 2), 0);
        Due.is("back(0)", war.back(0), 10);
        Due.is("written(9, 0)", war.written(9, 0), 1);
        Due.is("written(9, 1)", war.written(9, 1), 1);
        Due.is("written(9, 2)", war.written(9, 2), 2);
    }

    private static void imagesRefused() {
        ChronicleWar war = threeArmies();
        war.day();
        Due.is("keep(2)", war.keep(2), ChronicleWar.BAD);
        Due.is("keep(-1)", war.keep(-1), ChronicleWar.BAD);
        Due.is("back(2)", war.back(2), ChronicleWar.BAD);
        Due.is("back(-1)", war.back(-1), ChronicleWar.BAD);
        Due.is("back(0)", war.back(0), ChronicleWar.STATE);
        war.keep(1);
        Due.is("back(0) with the other kept", war.back(0), ChronicleWar.STATE);
        Due.is("now(0)", war.now(0), 2);
        Due.is("now(5)", war.now(5), 1);
    }

    private static void imagesKeepNothingElse() {
        ChronicleWar war = threeArmies();
        war.keep(0);
        war.day();
        Due.is("now(5) behind keep()", war.now(5), 1);
        war.keep(1);
        war.undo();
        Due.is("back(1) behind undo()", war.back(1), 2);
        war.type(102);
        war.rate(1, 0);
        war.back(0);
        Due.is("count(3) behind back()", war.count(3), 1);
        Due.is("trace() behind back()", war.trace(), 11);
        Due.is("roads(5) behind back()", war.roads(5), 7);
    }
}
