import java.util.ArrayList;
import java.util.List;
import java.util.function.Supplier;
import java.util.function.ToLongFunction;

/**
 * All that can be seen of a war. What is hidden (steps that may be undone, IMAGES, the letters of
 * THE TEXT) is brought to light by wars made alike: one for each way to look, as looking changes
 * them and a war is good for 512 calls.
 */
final class Seen {
    private static final int STEPS = 11;

    private Seen() {
    }

    static List<Long> of(ChronicleWar war) {
        List<Long> seen = new ArrayList<>();
        seen.add(war.trace());
        for (int what = 0; what < 4; what++) {
            seen.add((long) war.count(what));
        }
        seen.addAll(ofNow(war));
        return seen;
    }

    /** The same, without THE TEXT and THE TRACE. */
    static List<Long> ofNow(ChronicleWar war) {
        List<Long> seen = new ArrayList<>();
        for (int f = 0; f <= 8; f++) {
            seen.add((long) war.roads(f));
        }
        for (int what = 0; what < 6; what++) {
            seen.add((long) war.now(what));
        }
        for (int a = 0; a < war.count(1); a++) {
            for (int what = 0; what < 3; what++) {
                seen.add((long) war.army(a, what));
            }
        }
        for (int k = 0; k < war.count(2); k++) {
            for (int what = 0; what < 5; what++) {
                seen.add((long) war.page(k, what));
            }
        }
        for (int d = 1; d <= 9; d++) {
            for (int what = 0; what < 3; what++) {
                seen.add((long) war.written(d, what));
            }
        }
        return seen;
    }

    static List<Long> deeply(Supplier<ChronicleWar> made, ToLongFunction<ChronicleWar> asked) {
        List<Long> seen = new ArrayList<>();
        for (int steps = 0; steps <= STEPS; steps++) {
            ChronicleWar war = behind(made, asked);
            for (int i = 0; i < steps; i++) {
                seen.add((long) war.undo());
            }
            seen.addAll(of(war));
        }
        for (int image = 0; image < 2; image++) {
            ChronicleWar war = behind(made, asked);
            seen.add((long) war.back(image));
            seen.addAll(of(war));
        }
        ChronicleWar war = behind(made, asked);
        seen.add((long) war.land());
        seen.addAll(of(war));
        return seen;
    }

    private static ChronicleWar behind(Supplier<ChronicleWar> made, ToLongFunction<ChronicleWar> asked) {
        ChronicleWar war = made.get();
        asked.applyAsLong(war);
        return war;
    }
}
