import java.io.IOException;
import java.nio.file.Files;
import java.nio.file.Path;
import java.util.function.Supplier;
import java.util.function.ToLongFunction;

/**
 * What the tests of boundary cases share. Each of them names a sentence of the document and the
 * promises that it is of; what is found wrong then is told with both.
 */
final class Edge {
    static final int BAD = ChronicleWar.BAD, STATE = ChronicleWar.STATE, FULL = ChronicleWar.FULL;
    static final int NONE = ChronicleWar.NONE, NO = ChronicleWar.NO;
    static final int MIN = Integer.MIN_VALUE, MAX = Integer.MAX_VALUE;
    static final int PROMISES = 26;

    private static final String DOCUMENT = read();
    private static final boolean[] IS_NAMED = new boolean[PROMISES + 1];
    private static String label = "";

    private Edge() {
    }

    /** A call with one number of it left open. */
    interface Asked {
        long of(ChronicleWar war, int number);
    }

    private static String read() {
        try {
            return plain(Files.readString(Path.of("../shared/DOC.md")));
        } catch (IOException e) {
            return "";
        }
    }

    private static String plain(String text) {
        return text.replaceAll("\\s+", " ");
    }

    /** From here on, what is asked is asked of these words, which must stand in the document. */
    static void sentence(String words, int... promises) {
        StringBuilder s = new StringBuilder("promise");
        for (int promise : promises) {
            IS_NAMED[promise] = true;
            s.append(' ').append(promise);
        }
        label = s + " \"" + words + "\": ";
        is("whether it is in the document", DOCUMENT.contains(plain(words)) ? 1 : 0, 1);
    }

    static void everyPromiseIsNamed() {
        label = "";
        for (int promise = 1; promise <= PROMISES; promise++) {
            is("whether a sentence of promise " + promise + " is held", IS_NAMED[promise] ? 1 : 0, 1);
        }
    }

    static void is(String call, long got, long want) {
        Due.is(label + call, got, want);
    }

    /** The text is told to a new war: what land() answers. */
    static void land(String text, int due) {
        ChronicleWar war = new ChronicleWar();
        Due.type(war, text);
        is("land() of \"" + text + "\"", war.land(), due);
        is("count(3) behind it", war.count(3), due < 0 ? text.length() : 0);
    }

    /** A call that answers this, and behind which all is as if it had not been made. */
    static void changesNothing(String call, Supplier<ChronicleWar> made, ToLongFunction<ChronicleWar> asked, long due) {
        is(call, asked.applyAsLong(made.get()), due);
        boolean isAsBefore = Seen.deeply(made, asked).equals(Seen.deeply(made, war -> 0));
        is("whether " + call + " changes nothing", isAsBefore ? 1 : 0, 1);
    }

    /** Numbers from first to last are taken; those on both sides are refused, and change nothing. */
    static void range(String call, int first, int last, long refused, Supplier<ChronicleWar> made, Asked asked) {
        for (int number = first; number <= last; number++) {
            boolean isTaken = asked.of(made.get(), number) != refused;
            is("whether " + call.replace("#", "" + number) + " is taken", isTaken ? 1 : 0, 1);
        }
        int[] beside = {MIN, first - 2, first - 1, last + 1, last + 2, MAX};
        for (int number : beside) {
            changesNothing(call.replace("#", "" + number), made, war -> asked.of(war, number), refused);
        }
    }
}
