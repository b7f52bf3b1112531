import java.util.Random;

/** All promises: runs of calls, drawn from fixed seeds, held against Model. */
final class ModelTest {
    private static final int RUNS = 1500, CALLS = 512;
    private static final int LONGEST_SEARCH = 40;
    private static int searches = 0;

    private final Random random;
    private final int run;
    private final ChronicleWar war = new ChronicleWar();
    private final Model model = new Model();
    private int calls = 0;

    private ModelTest(int run) {
        this.run = run;
        random = new Random(run);
    }

    public static void main(String[] args) {
        for (int run = 0; run < RUNS; run++) {
            new ModelTest(run).go();
        }
        Due.is("whether best() was searched often", searches > 1000 ? 1 : 0, 1);
        Due.end();
    }

    private void go() {
        if (random.nextInt(20) != 0) {
            tell(random.nextInt(4) == 0);
        }
        while (calls < CALLS) {
            if (random.nextInt(150) == 0) {
                tell(true);
            } else if (random.nextInt(3) == 0) {
                change();
            } else if (random.nextInt(12) == 0) {
                wrongCall();
            } else {
                ask();
            }
        }
    }

    private void due(String call, long got, long want) {
        calls++;
        Due.is("run " + run + ", call " + calls + ": " + call, got, want);
    }

    private void tell(boolean mayBeWrong) {
        String text = landText();
        if (mayBeWrong) {
            text = spoilt(text);
        }
        for (int i = 0; i < text.length(); i++) {
            int letter = text.charAt(i);
            due("type(" + letter + ")", war.type(letter), model.type(letter));
        }
        due("land()", war.land(), model.land());
        if (random.nextInt(2) == 0) {
            due("clear()", war.clear(), model.clear());
        }
    }

    private String landText() {
        int n = random.nextInt(4) == 0 ? 4 : 2 + random.nextInt(7);
        StringBuilder s = new StringBuilder();
        if (n != 4 || random.nextBoolean()) {
            s.append("f").append(n).append(";");
        }
        int left = 4 + random.nextInt(12);
        for (int i = 0; i < left; i++) {
            switch (random.nextInt(3)) {
                case 0 -> {
                    int a = random.nextInt(n);
                    s.append("r").append(a).append(" ").append((a + 1 + random.nextInt(n - 1)) % n);
                }
                case 1 -> s.append("a").append(random.nextInt(2)).append(" ").append(random.nextInt(n))
                    .append(" ").append(1 + random.nextInt(9));
                default -> s.append("p").append(1 + random.nextInt(random.nextInt(9) + 1)).append(" ")
                    .append(random.nextInt(3)).append(" ").append(random.nextInt(3)).append(" ").append(random.nextInt(n));
            }
            s.append(";");
        }
        return s.toString();
    }

    private String spoilt(String text) {
        String letters = "frap;0123456789  x";
        StringBuilder s = new StringBuilder(text);
        for (int i = random.nextInt(3); i > 0 && s.length() > 0; i--) {
            int at = random.nextInt(s.length());
            char letter = letters.charAt(random.nextInt(letters.length()));
            switch (random.nextInt(4)) {
                case 0 -> s.setCharAt(at, letter);
                case 1 -> s.insert(at, letter);
                case 2 -> s.deleteCharAt(at);
                default -> s.setLength(at);
            }
        }
        return s.toString();
    }

    private int upTo(int most) {
        return random.nextInt(most + 1);
    }

    private void change() {
        switch (random.nextInt(10)) {
            case 0, 1, 2 -> {
                int x = upTo(1);
                int order = someOrder(x);
                due("orders(" + x + ", " + order + ")", war.orders(x, order), model.orders(x, order));
            }
            case 3, 4 -> due("day()", war.day(), model.day());
            case 5 -> {
                int d = 1 + upTo(8);
                int x = upTo(2);
                int w = upTo(2);
                int f = upTo(3);
                due("writes(" + d + ", " + x + ", " + w + ", " + f + ")", war.writes(d, x, w, f), model.writes(d, x, w, f));
            }
            case 6 -> {
                int k = upTo(6);
                due("strikes(" + k + ")", war.strikes(k), model.strikes(k));
            }
            case 7 -> due("undo()", war.undo(), model.undo());
            case 8 -> {
                int i = upTo(1);
                due("keep(" + i + ")", war.keep(i), model.keep(i));
            }
            default -> {
                int i = upTo(1);
                due("back(" + i + ")", war.back(i), model.back(i));
            }
        }
    }

    private int someOrder(int x) {
        int many = model.dutiful(x, -1);
        return many > 0 && random.nextInt(3) != 0 ? model.dutiful(x, random.nextInt(many)) : upTo(50);
    }

    private void ask() {
        int a = upTo(6);
        int b = upTo(5);
        switch (random.nextInt(16)) {
            case 0 -> due("roads(" + a + ")", war.roads(a), model.roads(a));
            case 1 -> due("army(" + a + ", " + b + ")", war.army(a, b), model.army(a, b));
            case 2, 3 -> due("page(" + a + ", 4)", war.page(a, 4), model.page(a, 4));
            case 4 -> due("page(" + a + ", " + b + ")", war.page(a, b), model.page(a, b));
            case 5 -> due("now(" + b + ")", war.now(b), model.now(b));
            case 6 -> due("written(" + a + ", " + b % 3 + ")", war.written(a, b % 3), model.written(a, b % 3));
            case 7 -> due("dutiful(" + b % 2 + ", " + (a - 1) + ")", war.dutiful(b % 2, a - 1), model.dutiful(b % 2, a - 1));
            case 8 -> askBest();
            case 9 -> due("readings()", war.readings(), model.readings());
            case 10 -> due("lost(" + a + ")", war.lost(a), model.lost(a));
            case 11 -> due("clash()", war.clash(), model.clash());
            case 12 -> due("least(" + b % 2 + ")", war.least(b % 2), model.least(b % 2));
            case 13 -> due("march(" + a + ", " + b + ")", war.march(a, b), model.march(a, b));
            case 14 -> due("rate(" + b + ", " + a + ")", war.rate(b, a), model.rate(b, a));
            default -> {
                due("count(" + b + ")", war.count(b), model.count(b));
                due("trace()", war.trace(), model.trace());
            }
        }
    }

    private void askBest() {
        int x = upTo(1);
        int n = model.breadth() > LONGEST_SEARCH ? upTo(1) : upTo(2);
        int what = upTo(1);
        searches++;
        due("best(" + x + ", " + n + ", " + what + ")", war.best(x, n, what), model.best(x, n, what));
    }

    private int wrongNumber() {
        int[] wrong = {-1, -2, 10, 49, 256, -256, Integer.MAX_VALUE, Integer.MIN_VALUE, 0, 1, 2, 6, 8, 9};
        return wrong[random.nextInt(wrong.length)];
    }

    private void wrongCall() {
        int a = wrongNumber();
        int b = wrongNumber();
        int c = wrongNumber();
        int d = upTo(3);
        String ab = "(" + a + ", " + b + ")";
        switch (random.nextInt(17)) {
            case 0 -> due("roads(" + a + ")", war.roads(a), model.roads(a));
            case 1 -> due("army" + ab, war.army(a, b), model.army(a, b));
            case 2 -> due("page" + ab, war.page(a, b), model.page(a, b));
            case 3 -> due("now(" + a + ")", war.now(a), model.now(a));
            case 4 -> due("written" + ab, war.written(a, b), model.written(a, b));
            case 5 -> due("orders" + ab, war.orders(a, b), model.orders(a, b));
            case 6 -> due("writes" + ab + c + d, war.writes(a, b, c, d), model.writes(a, b, c, d));
            case 7 -> due("strikes(" + a + ")", war.strikes(a), model.strikes(a));
            case 8 -> due("dutiful" + ab, war.dutiful(a, b), model.dutiful(a, b));
            case 9 -> {
                int n = c == 2 ? 3 : c; // no long search here
                due("best(" + a + ", " + n + ", " + b + ")", war.best(a, n, b), model.best(a, n, b));
            }
            case 10 -> due("lost(" + a + ")", war.lost(a), model.lost(a));
            case 11 -> due("least(" + a + ")", war.least(a), model.least(a));
            case 12 -> due("march" + ab, war.march(a, b), model.march(a, b));
            case 13 -> due("rate" + ab, war.rate(a, b), model.rate(a, b));
            case 14 -> due("keep(" + a + ")", war.keep(a), model.keep(a));
            case 15 -> due("back(" + a + ")", war.back(a), model.back(a));
            default -> due("count(" + a + ")", war.count(a), model.count(a));
        }
    }
}
