import java.lang.management.ManagementFactory;

/** All calls of a run live in one room: what an object needs is made with it, and no call makes more. */
final class RoomTest {
    private static final int ROUNDS = 2000;
    private static final long SLACK = 200_000;

    public static void main(String[] args) {
        var threads = (com.sun.management.ThreadMXBean) ManagementFactory.getThreadMXBean();
        ChronicleWar war = Due.told("f8;r0 1;r1 2;r0 2;a0 0 9;a0 1 9;a1 2 9;p1 2 0 0;p1 0 0 1;p2 1 2 0;");
        long sum = allCalls(war);
        long before = threads.getCurrentThreadAllocatedBytes();
        for (int i = 0; i < ROUNDS; i++) {
            sum += allCalls(war);
        }
        long made = threads.getCurrentThreadAllocatedBytes() - before;
        System.out.println(made + " bytes were made by " + ROUNDS + " rounds, sum " + sum);
        Due.is("whether calls made little", made < SLACK ? 1 : 0, 1);
        Due.end();
    }

    private static long allCalls(ChronicleWar war) {
        long sum = 0;
        String text = "f8;r0 1;r1 2;r0 2;a0 0 9;a0 1 9;a1 2 9;p1 2 0 0;p1 0 0 1;p2 1 2 0;";
        for (int i = 0; i < text.length(); i++) {
            sum += war.type(text.charAt(i));
        }
        sum += war.land() + war.roads(0) + war.army(0, 0) + war.page(0, 4) + war.now(3) + war.written(1, 0);
        sum += war.orders(0, 2) + war.keep(0) + war.day() + war.writes(2, 0, 0, 0) + war.strikes(0);
        sum += war.dutiful(0, -1) + war.best(0, 2, 1) + war.readings() + war.lost(1) + war.clash();
        sum += war.least(0) + war.march(0, 2) + war.rate(3, 0) + war.undo() + war.back(0) + war.count(0);
        return sum + war.clear() + war.trace();
    }
}
