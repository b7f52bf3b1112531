import java.util.ArrayDeque;
import java.util.ArrayList;
import java.util.Deque;
import java.util.List;
import java.util.regex.Matcher;
import java.util.regex.Pattern;

/**
 * The document word by word, as slowly as it likes: whole copies for what may be undone, DAYS that
 * are tried out, ORDERS searched through, subsets counted. ModelTest holds the class against it.
 */
final class Model {
    private static final int BAD = -1, STATE = -2, FULL = -3, NONE = -9, NO = -1000000;

    /** What an IMAGE keeps. */
    private static final class State {
        int day = 1;
        int[] order = {0, 0};
        List<int[]> armies = new ArrayList<>(); // duke, field, troops
        List<int[]> pages = new ArrayList<>(); // day, who, what, field
        List<int[]> written = new ArrayList<>(); // where each marched, bits of battles

        State copy() {
            State s = new State();
            s.day = day;
            s.order = order.clone();
            armies.forEach(a -> s.armies.add(a.clone()));
            pages.forEach(p -> s.pages.add(p.clone()));
            written.forEach(w -> s.written.add(w.clone()));
            return s;
        }

        int troops(int x) {
            return armies.stream().filter(a -> a[0] == x).mapToInt(a -> a[2]).sum();
        }
    }

    private int fields = 4;
    private boolean[][] road = new boolean[8][8];
    private State now = new State();
    private final Deque<State> past = new ArrayDeque<>();
    private State[] image = new State[2];
    private String text = "";
    private long trace = 0;

    // ---- the land

    int type(int letter) {
        if (letter < 0 || letter > 255) {
            return BAD;
        }
        if (text.length() == 200) {
            return FULL;
        }
        text += (char) letter;
        return text.length();
    }

    int clear() {
        int had = text.length();
        text = "";
        return had;
    }

    int land() {
        List<String> tokens = new ArrayList<>();
        List<Integer> places = new ArrayList<>();
        Matcher m = Pattern.compile("[0-9]+|[^ ]", Pattern.DOTALL).matcher(text);
        while (m.find()) {
            tokens.add(m.group());
            places.add(m.start());
        }
        places.add(text.length());
        int toldFields = 4;
        int items = 0;
        boolean[][] toldRoad = new boolean[8][8];
        State told = new State();
        int t = 0;
        while (t < tokens.size()) {
            String head = tokens.get(t);
            int[][] range;
            int f = toldFields - 1;
            if (head.equals("f") && items == 0) {
                range = new int[][] {{2, 8}};
            } else if (head.equals("r")) {
                range = new int[][] {{0, f}, {0, f}};
            } else if (head.equals("a") && told.armies.size() < 6) {
                range = new int[][] {{0, 1}, {0, f}, {1, 9}};
            } else if (head.equals("p") && told.pages.size() < 6) {
                range = new int[][] {{1, 9}, {0, 2}, {0, 2}, {0, f}};
            } else {
                return -10 - places.get(t);
            }
            int[] value = new int[range.length];
            for (int i = 0; i < range.length; i++) {
                t++;
                if (t == tokens.size() || !tokens.get(t).matches("0|[1-9][0-9]?")) {
                    return -10 - places.get(t);
                }
                value[i] = Integer.parseInt(tokens.get(t));
                if (value[i] < range[i][0] || value[i] > range[i][1]) {
                    return -10 - places.get(t);
                }
                if (head.equals("r") && i == 1 && value[0] == value[1]) {
                    return -10 - places.get(t);
                }
            }
            t++;
            if (t == tokens.size() || !tokens.get(t).equals(";")) {
                return -10 - places.get(t);
            }
            t++;
            items++;
            switch (head) {
                case "f" -> toldFields = value[0];
                case "r" -> {
                    toldRoad[value[0]][value[1]] = true;
                    toldRoad[value[1]][value[0]] = true;
                }
                case "a" -> told.armies.add(value);
                default -> told.pages.add(value);
            }
        }
        fields = toldFields;
        road = toldRoad;
        now = told;
        past.clear();
        image = new State[2];
        text = "";
        return items;
    }

    int roads(int f) {
        if (f < 0 || f >= fields) {
            return BAD;
        }
        int bits = 0;
        for (int g = 0; g < fields; g++) {
            bits += road[f][g] ? 1 << g : 0;
        }
        return bits;
    }

    int army(int a, int what) {
        return isArmy(a) && what >= 0 && what <= 2 ? now.armies.get(a)[what] : BAD;
    }

    int page(int k, int what) {
        if (k < 0 || k >= now.pages.size() || what < 0 || what > 4) {
            return BAD;
        }
        return what == 4 ? verdict(now, now.pages.get(k)) : now.pages.get(k)[what];
    }

    int now(int what) {
        int[] all = {now.day, now.order[0], now.order[1], now.troops(0), now.troops(1), past.size()};
        return what >= 0 && what <= 5 ? all[what] : BAD;
    }

    int written(int day, int what) {
        return day >= 1 && day <= now.written.size() && what >= 0 && what <= 2 ? now.written.get(day - 1)[what] : NO;
    }

    // ---- the war

    int orders(int x, int order) {
        if (x < 0 || x > 1 || !ordersOf(now, x).contains(order)) {
            return BAD;
        }
        if (now.day == 10) {
            return STATE;
        }
        step();
        now.order[x] = order;
        return 1;
    }

    int day() {
        if (now.day == 10) {
            return STATE;
        }
        step();
        pass(now);
        return Integer.bitCount(now.written.get(now.day - 2)[2]);
    }

    int writes(int d, int x, int w, int f) {
        if (d < 1 || d > 9 || x < 0 || x > 2 || w < 0 || w > 2 || f < 0 || f >= fields) {
            return BAD;
        }
        if (d < now.day) {
            return STATE;
        }
        if (now.pages.size() == 6) {
            return FULL;
        }
        step();
        now.pages.add(new int[] {d, x, w, f});
        return now.pages.size();
    }

    int strikes(int k) {
        if (k < 0 || k >= now.pages.size()) {
            return BAD;
        }
        step();
        now.pages.remove(k);
        return now.pages.size();
    }

    int undo() {
        if (past.isEmpty()) {
            return STATE;
        }
        now = past.removeLast();
        return past.size();
    }

    private void step() {
        past.addLast(now.copy());
        if (past.size() > 10) {
            past.removeFirst();
        }
    }

    private List<Integer> ordersOf(State s, int x) {
        List<Integer> all = new ArrayList<>();
        all.add(0);
        for (int a = 0; a < s.armies.size(); a++) {
            int[] army = s.armies.get(a);
            for (int f = 0; f < fields; f++) {
                if (army[0] == x && army[2] > 0 && road[army[1]][f]) {
                    all.add(8 * a + f + 1);
                }
            }
        }
        return all;
    }

    private void pass(State s) {
        int[] down = {NONE, NONE, 0};
        for (int x = 0; x < 2; x++) {
            if (s.order[x] != 0) {
                down[x] = (s.order[x] - 1) % 8;
                s.armies.get((s.order[x] - 1) / 8)[1] = down[x];
            }
        }
        for (int f = 0; f < fields; f++) {
            int at = f;
            int[] sum = new int[2];
            s.armies.stream().filter(a -> a[1] == at).forEach(a -> sum[a[0]] += a[2]);
            if (sum[0] == 0 || sum[1] == 0) {
                continue;
            }
            down[2] += 1 << f;
            int more = sum[0] > sum[1] ? 0 : sum[1] > sum[0] ? 1 : NONE;
            int toLose = more == NONE ? 0 : sum[1 - more];
            for (int[] a : s.armies) {
                if (a[1] == f && a[0] != more) {
                    a[2] = 0;
                } else if (a[1] == f) {
                    int loss = Math.min(toLose, a[2]);
                    a[2] -= loss;
                    toLose -= loss;
                }
            }
        }
        s.written.add(down);
        s.day++;
        s.order = new int[] {0, 0};
    }

    private static int verdict(State s, int[] page) {
        if (page[0] >= s.day) {
            return 0;
        }
        int[] down = s.written.get(page[0] - 1);
        boolean done = page[2] == 1 && (down[2] & 1 << page[3]) != 0;
        for (int x = 0; x < 2; x++) {
            if (page[1] == x || page[1] == 2) {
                done |= page[2] == 0 && down[x] == page[3];
                done |= page[2] == 2 && down[x] == NONE;
            }
        }
        return done ? 1 : 2;
    }

    // ---- what is best

    int dutiful(int x, int i) {
        if (x < 0 || x > 1 || i < -1) {
            return BAD;
        }
        if (now.day == 10) {
            return STATE;
        }
        List<Integer> all = dutifulOf(now, x);
        return i == -1 ? all.size() : i < all.size() ? all.get(i) : -5;
    }

    private List<Integer> dutifulOf(State s, int x) {
        List<Integer> all = new ArrayList<>();
        for (int order : ordersOf(s, x)) {
            State tried = s.copy();
            tried.order[x] = order;
            pass(tried);
            boolean keeps = true;
            for (int[] p : tried.pages) {
                keeps &= p[0] != s.day || p[1] != x || p[2] == 1 || verdict(tried, p) != 2;
            }
            if (keeps) {
                all.add(order);
            }
        }
        return all;
    }

    /** How many ways one DAY can go, so that a test can spare itself the long searches. */
    int breadth() {
        return now.day == 10 ? 1 : ordersOf(now, 0).size() * ordersOf(now, 1).size();
    }

    int best(int x, int n, int what) {
        if (x < 0 || x > 1 || n < 0 || n > 2 || what < 0 || what > 1) {
            return NO;
        }
        return search(now, x, n)[what];
    }

    private int[] search(State s, int x, int n) {
        if (n == 0 || s.day == 10) {
            return new int[] {s.troops(x) - s.troops(1 - x), -1};
        }
        int[] best = null;
        for (int his : choices(s, x)) {
            int worst = Integer.MAX_VALUE;
            for (int other : choices(s, 1 - x)) {
                State next = s.copy();
                next.order[x] = his;
                next.order[1 - x] = other;
                pass(next);
                worst = Math.min(worst, search(next, x, n - 1)[0]);
            }
            if (best == null || worst > best[0]) {
                best = new int[] {worst, his};
            }
        }
        return best;
    }

    private List<Integer> choices(State s, int x) {
        List<Integer> all = dutifulOf(s, x);
        return all.isEmpty() ? List.of(0) : all;
    }

    // ---- the pages

    int readings() {
        int many = 0;
        int size = now.pages.size();
        for (int reading = 0; reading < 1 << size; reading++) {
            boolean holds = true;
            for (int k = 0; k < size; k++) {
                int[] p = now.pages.get(k).clone();
                int taken = reading >> k & 1;
                if (p[1] == 2) {
                    p[1] = taken;
                } else if (taken == 1) {
                    holds = false; // this one can't be taken in two ways
                }
                holds &= verdict(now, p) != 2;
            }
            many += holds ? 1 : 0;
        }
        return many;
    }

    int lost(int d) {
        if (d < 1 || d > now.written.size()) {
            return BAD;
        }
        return 2 + 2 * Integer.bitCount(now.written.get(d - 1)[2]);
    }

    int clash() {
        for (int pair = 0; pair < 60; pair++) {
            if (pair / 10 < pair % 10 && pair % 10 < now.pages.size() && clash(pair / 10, pair % 10)) {
                return pair;
            }
        }
        return NONE;
    }

    private boolean clash(int j, int k) {
        int[] p = now.pages.get(j);
        int[] q = now.pages.get(k);
        if (p[0] != q[0] || p[1] != q[1] || p[1] == 2 || p[2] == 1 || q[2] == 1) {
            return false;
        }
        return p[2] != q[2] || p[2] == 0 && p[3] != q[3];
    }

    int least(int what) {
        if (what < 0 || what > 1) {
            return BAD;
        }
        int size = now.pages.size();
        for (int many = 0; many <= size; many++) {
            for (int struck = 0; struck < 1 << size; struck++) {
                if (Integer.bitCount(struck) == many && holdsWithout(struck)) {
                    return what == 0 ? many : struck;
                }
            }
        }
        throw new IllegalStateException("no PAGE can be BROKEN where all are struck");
    }

    private boolean holdsWithout(int struck) {
        for (int j = 0; j < now.pages.size(); j++) {
            for (int k = 0; k < now.pages.size(); k++) {
                boolean bothStay = (struck >> j & 1) == 0 && (struck >> k & 1) == 0;
                if (bothStay && (verdict(now, now.pages.get(j)) == 2 || clash(j, k))) {
                    return false;
                }
            }
        }
        return true;
    }

    int march(int a, int f) {
        if (!isArmy(a) || f < 0 || f >= fields) {
            return BAD;
        }
        int[][] days = new int[fields][fields];
        for (int i = 0; i < fields; i++) {
            for (int j = 0; j < fields; j++) {
                days[i][j] = i == j ? 0 : road[i][j] ? 1 : 1000;
            }
        }
        for (int k = 0; k < fields; k++) {
            for (int i = 0; i < fields; i++) {
                for (int j = 0; j < fields; j++) {
                    days[i][j] = Math.min(days[i][j], days[i][k] + days[k][j]);
                }
            }
        }
        int due = days[now.armies.get(a)[1]][f];
        return due >= 1000 ? NONE : due;
    }

    // ---- kinds, images

    int rate(int kind, int a) {
        if (kind < 0 || kind > 5 || !isArmy(a)) {
            return NO;
        }
        int f = now.armies.get(a)[1];
        int troops = now.armies.get(a)[2];
        int ways = Integer.bitCount(roads(f));
        trace += new int[] {1, 11, 101, 1011, 10101, 100001}[kind];
        return new int[] {troops, troops + f, troops - ways, 2 * (troops + f), troops - ways + a, troops + now.day}[kind];
    }

    int keep(int i) {
        if (i < 0 || i > 1) {
            return BAD;
        }
        image[i] = now.copy();
        return now.day;
    }

    int back(int i) {
        if (i < 0 || i > 1) {
            return BAD;
        }
        if (image[i] == null) {
            return STATE;
        }
        now = image[i].copy();
        past.clear();
        return now.day;
    }

    int count(int what) {
        int[] all = {fields, now.armies.size(), now.pages.size(), text.length()};
        return what >= 0 && what <= 3 ? all[what] : BAD;
    }

    long trace() {
        return trace;
    }

    private boolean isArmy(int a) {
        return a >= 0 && a < now.armies.size();
    }
}
