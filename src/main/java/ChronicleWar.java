import java.util.Arrays;

/** A war that goes by its chronicle; the document's promises say what each call answers. */
public final class ChronicleWar {
    public static final int BAD = -1, STATE = -2, FULL = -3, NONE = -9;
    public static final int NO = -1000000;

    private static final int MIN_FIELDS = 2, MAX_FIELDS = 8, FIRST_FIELDS = 4;
    private static final int DUKES = 2, HIM = 2;
    private static final int MAX_ARMIES = 6, MAX_TROOPS = 9;
    private static final int MAX_PAGES = 6, LAST_DAY = 9;
    private static final int MARCHES = 0, FIGHTS = 1, RESTS = 2;
    private static final int OPEN = 0, FULFILLED = 1, BROKEN = 2;
    private static final int NO_ORDER = 0, LAST_ORDER = MAX_ARMIES * MAX_FIELDS;
    private static final int NOT_SO_MANY = -5, NO_BEST = -1;
    private static final int MAX_AHEAD = 2;
    private static final int MAX_LETTERS = 200, LAST_LETTER = 255;
    private static final int FAULT_BASE = -10;
    private static final int KNOWN_STEPS = 10;
    private static final int IMAGES = 2;

    private final Land land = new Land();
    private final Now now = new Now();
    private final Text text = new Text();
    private final Past past = new Past();
    private final Images images = new Images();
    private long trace = 0;

    public ChronicleWar() {
    }

    // ---- the land

    public int type(int letter) {
        if (letter < 0 || letter > LAST_LETTER) {
            return BAD;
        }
        if (text.length >= MAX_LETTERS) {
            return FULL;
        }
        text.add(letter);
        return text.length;
    }

    public int clear() {
        int had = text.length;
        text.length = 0;
        return had;
    }

    public int land() {
        int items = text.readAll();
        if (items < 0) {
            return items;
        }
        land.copyFrom(text.toldLand);
        now.copyFrom(text.toldNow);
        past.forgetAll();
        images.forgetAll();
        text.length = 0;
        return items;
    }

    public int roads(int f) {
        return land.has(f) ? land.waysFrom(f) : BAD;
    }

    public int army(int a, int what) {
        if (!now.armies.has(a)) {
            return BAD;
        }
        switch (what) {
            case 0: return now.armies.duke[a];
            case 1: return now.armies.field[a];
            case 2: return now.armies.troops[a];
            default: return BAD;
        }
    }

    public int page(int k, int what) {
        if (!now.pages.has(k)) {
            return BAD;
        }
        switch (what) {
            case 0: return now.pages.day[k];
            case 1: return now.pages.who[k];
            case 2: return now.pages.deed[k];
            case 3: return now.pages.field[k];
            case 4: return now.stateOf(k);
            default: return BAD;
        }
    }

    public int now(int what) {
        switch (what) {
            case 0: return now.day;
            case 1: return now.order[0];
            case 2: return now.order[1];
            case 3: return now.armies.troopsOf(0);
            case 4: return now.armies.troopsOf(1);
            case 5: return past.size;
            default: return BAD;
        }
    }

    public int written(int day, int what) {
        if (!now.wentBy(day)) {
            return NO;
        }
        switch (what) {
            case 0: return now.annals.goalOf(day, 0);
            case 1: return now.annals.goalOf(day, 1);
            case 2: return now.annals.battlesOf(day);
            default: return NO;
        }
    }

    // ---- the war

    public int orders(int x, int order) {
        if (!isDuke(x) || !Orders.isOne(land, now, x, order)) {
            return BAD;
        }
        if (now.isOver()) {
            return STATE;
        }
        past.remember(now);
        now.order[x] = order;
        return 1;
    }

    public int day() {
        if (now.isOver()) {
            return STATE;
        }
        past.remember(now);
        return now.passDay();
    }

    public int writes(int d, int x, int w, int f) {
        if (d < 1 || d > LAST_DAY || x < 0 || x > HIM || w < MARCHES || w > RESTS || !land.has(f)) {
            return BAD;
        }
        if (d < now.day) {
            return STATE;
        }
        if (now.pages.size >= MAX_PAGES) {
            return FULL;
        }
        past.remember(now);
        now.pages.add(d, x, w, f);
        return now.pages.size;
    }

    public int strikes(int k) {
        if (!now.pages.has(k)) {
            return BAD;
        }
        past.remember(now);
        now.pages.remove(k);
        return now.pages.size;
    }

    public int undo() {
        if (past.size == 0) {
            return STATE;
        }
        past.takeBack(now);
        return past.size;
    }

    // ---- what is best

    public int dutiful(int x, int i) {
        if (!isDuke(x) || i < -1) {
            return BAD;
        }
        if (now.isOver()) {
            return STATE;
        }
        return i == -1 ? Orders.howManyDutiful(land, now, x) : Orders.dutifulAt(land, now, x, i);
    }

    /**
     * A battle takes as many TROOPS from one DUKE as from the other, so that no ORDER of either
     * changes what he has more: it is sure from the first, by each DUTIFUL ORDER alike.
     */
    public int best(int x, int n, int what) {
        if (!isDuke(x) || n < 0 || n > MAX_AHEAD || what < 0 || what > 1) {
            return NO;
        }
        if (what == 0) {
            return now.armies.troopsOf(x) - now.armies.troopsOf(1 - x);
        }
        if (n == 0 || now.isOver()) {
            return NO_BEST;
        }
        int least = Orders.dutifulAt(land, now, x, 0);
        return least == NOT_SO_MANY ? NO_ORDER : least;
    }

    // ---- the pages

    public int readings() {
        return Monk.countReadings(now);
    }

    public int lost(int d) {
        return now.wentBy(d) ? Monk.countSentences(now.annals, d, land.fields) : BAD;
    }

    public int clash() {
        return Monk.firstClash(now.pages);
    }

    public int least(int what) {
        if (what < 0 || what > 1) {
            return BAD;
        }
        int struck = Monk.leastStruck(now);
        return what == 0 ? Integer.bitCount(struck) : struck;
    }

    public int march(int a, int f) {
        if (!now.armies.has(a) || !land.has(f)) {
            return BAD;
        }
        return land.daysBetween(now.armies.field[a], f);
    }

    // ---- kinds, images

    public int rate(int kind, int a) {
        if (!now.armies.has(a)) {
            return NO;
        }
        switch (kind) {
            case 0: return rateTroop(a);
            case 1: return rateArchers(a);
            case 2: return rateSiege(a);
            case 3: return rateMarginalArchers(a);
            case 4: return rateBaggage(a);
            case 5: return rateMarshal(a);
            default: return NO;
        }
    }

    public int keep(int image) {
        if (!images.has(image)) {
            return BAD;
        }
        images.put(image, now);
        return now.day;
    }

    public int back(int image) {
        if (!images.has(image)) {
            return BAD;
        }
        if (!images.isKept[image]) {
            return STATE;
        }
        now.copyFrom(images.kept[image]);
        past.forgetAll();
        return now.day;
    }

    public int count(int what) {
        switch (what) {
            case 0: return land.fields;
            case 1: return now.armies.size;
            case 2: return now.pages.size;
            case 3: return text.length;
            default: return BAD;
        }
    }

    public long trace() {
        return trace;
    }

    private static boolean isDuke(int x) {
        return x >= 0 && x < DUKES;
    }

    // Each of these is called for an ARMY that there is.

    private int rateTroop(int a) {
        trace += 1;
        return now.armies.troops[a];
    }

    private int rateArchers(int a) {
        trace += 10;
        return rateTroop(a) + now.armies.field[a];
    }

    private int rateSiege(int a) {
        trace += 100;
        return rateTroop(a) - Integer.bitCount(land.waysFrom(now.armies.field[a]));
    }

    private int rateMarginalArchers(int a) {
        trace += 1000;
        return 2 * rateArchers(a);
    }

    private int rateBaggage(int a) {
        trace += 10000;
        return rateSiege(a) + a;
    }

    private int rateMarshal(int a) {
        trace += 100000;
        return rateTroop(a) + now.day;
    }

    /** FIELDS, and for each the FIELDS to which ROADS lead from it, as bits. */
    private static final class Land {
        int fields = FIRST_FIELDS;
        private final int[] ways = new int[MAX_FIELDS];

        void reset() {
            fields = FIRST_FIELDS;
            Arrays.fill(ways, 0);
        }

        void copyFrom(Land other) {
            fields = other.fields;
            System.arraycopy(other.ways, 0, ways, 0, MAX_FIELDS);
        }

        boolean has(int f) {
            return f >= 0 && f < fields && f < MAX_FIELDS;
        }

        int waysFrom(int f) {
            return has(f) ? ways[f] : 0;
        }

        boolean isRoad(int a, int b) {
            return has(b) && (waysFrom(a) >> b & 1) == 1;
        }

        void join(int a, int b) {
            if (has(a) && has(b)) {
                ways[a] |= 1 << b;
                ways[b] |= 1 << a;
            }
        }

        int daysBetween(int from, int to) {
            int reached = 1 << from;
            for (int days = 0; days < fields; days++) {
                if ((reached >> to & 1) == 1) {
                    return days;
                }
                reached = aDayFurther(reached);
            }
            return NONE;
        }

        private int aDayFurther(int reached) {
            int further = reached;
            for (int f = 0; f < fields; f++) {
                if ((reached >> f & 1) == 1) {
                    further |= waysFrom(f);
                }
            }
            return further;
        }
    }

    private static final class Armies {
        int size = 0;
        final int[] duke = new int[MAX_ARMIES];
        final int[] field = new int[MAX_ARMIES];
        final int[] troops = new int[MAX_ARMIES];

        void copyFrom(Armies other) {
            size = other.size;
            System.arraycopy(other.duke, 0, duke, 0, MAX_ARMIES);
            System.arraycopy(other.field, 0, field, 0, MAX_ARMIES);
            System.arraycopy(other.troops, 0, troops, 0, MAX_ARMIES);
        }

        boolean has(int a) {
            return a >= 0 && a < size && a < MAX_ARMIES;
        }

        void add(int x, int f, int t) {
            if (size < MAX_ARMIES) {
                duke[size] = x;
                field[size] = f;
                troops[size] = t;
                size++;
            }
        }

        void moveTo(int a, int f) {
            if (has(a)) {
                field[a] = f;
            }
        }

        int troopsOf(int x) {
            int sum = 0;
            for (int a = 0; a < size; a++) {
                if (duke[a] == x) {
                    sum += troops[a];
                }
            }
            return sum;
        }

        int troopsAt(int x, int f) {
            int sum = 0;
            for (int a = 0; a < size; a++) {
                if (duke[a] == x && field[a] == f) {
                    sum += troops[a];
                }
            }
            return sum;
        }

        /**
         * Whether they fought at a FIELD. Who has more loses as many as the other one has, and the
         * other one loses all that he has: the lesser of both numbers is what each of them loses.
         */
        boolean fightAt(int f) {
            int losses = Math.min(troopsAt(0, f), troopsAt(1, f));
            if (losses == 0) {
                return false;
            }
            loseAt(0, f, losses);
            loseAt(1, f, losses);
            return true;
        }

        private void loseAt(int x, int f, int losses) {
            int left = losses;
            for (int a = 0; a < size; a++) {
                if (duke[a] == x && field[a] == f) {
                    int gone = Math.min(left, troops[a]);
                    troops[a] -= gone;
                    left -= gone;
                }
            }
        }
    }

    private static final class Pages {
        int size = 0;
        final int[] day = new int[MAX_PAGES];
        final int[] who = new int[MAX_PAGES];
        final int[] deed = new int[MAX_PAGES];
        final int[] field = new int[MAX_PAGES];

        void copyFrom(Pages other) {
            size = other.size;
            System.arraycopy(other.day, 0, day, 0, MAX_PAGES);
            System.arraycopy(other.who, 0, who, 0, MAX_PAGES);
            System.arraycopy(other.deed, 0, deed, 0, MAX_PAGES);
            System.arraycopy(other.field, 0, field, 0, MAX_PAGES);
        }

        boolean has(int k) {
            return k >= 0 && k < size && k < MAX_PAGES;
        }

        void add(int d, int x, int w, int f) {
            if (size < MAX_PAGES) {
                day[size] = d;
                who[size] = x;
                deed[size] = w;
                field[size] = f;
                size++;
            }
        }

        void remove(int k) {
            if (!has(k)) {
                return;
            }
            for (int i = k; i + 1 < size; i++) {
                day[i] = day[i + 1];
                who[i] = who[i + 1];
                deed[i] = deed[i + 1];
                field[i] = field[i + 1];
            }
            size--;
        }

        /** Whether two PAGES that there are can't both be. */
        boolean areClashing(int j, int k) {
            if (day[j] != day[k] || who[j] != who[k] || who[j] == HIM) {
                return false;
            }
            if (deed[j] == MARCHES && deed[k] == MARCHES) {
                return field[j] != field[k];
            }
            return deed[j] == MARCHES && deed[k] == RESTS || deed[j] == RESTS && deed[k] == MARCHES;
        }
    }

    /** What is WRITTEN DOWN of the DAYS that went by. */
    private static final class Annals {
        private final int[] goals = new int[DUKES * (LAST_DAY + 1)];
        private final int[] battles = new int[LAST_DAY + 1];

        void copyFrom(Annals other) {
            System.arraycopy(other.goals, 0, goals, 0, DUKES * (LAST_DAY + 1));
            System.arraycopy(other.battles, 0, battles, 0, LAST_DAY + 1);
        }

        void putGoal(int d, int x, int f) {
            if (isDay(d) && isDuke(x)) {
                goals[DUKES * d + x] = f;
            }
        }

        void putBattles(int d, int fields) {
            if (isDay(d)) {
                battles[d] = fields;
            }
        }

        /** The FIELD to which a DUKE marched, or NONE. */
        int goalOf(int d, int x) {
            return isDay(d) && isDuke(x) ? goals[DUKES * d + x] : NONE;
        }

        int battlesOf(int d) {
            return isDay(d) ? battles[d] : 0;
        }

        /** Whether on that DAY a DUKE did what a sentence tells. */
        boolean confirm(int d, int x, int deed, int f) {
            switch (deed) {
                case MARCHES: return goalOf(d, x) == f;
                case FIGHTS: return (battlesOf(d) >> f & 1) == 1;
                default: return goalOf(d, x) == NONE;
            }
        }

        private static boolean isDay(int d) {
            return d >= 1 && d <= LAST_DAY;
        }
    }

    /** All that an IMAGE keeps and that undo() brings back. */
    private static final class Now {
        int day = 1;
        final int[] order = new int[DUKES];
        final Armies armies = new Armies();
        final Pages pages = new Pages();
        final Annals annals = new Annals();

        void copyFrom(Now other) {
            day = other.day;
            System.arraycopy(other.order, 0, order, 0, DUKES);
            armies.copyFrom(other.armies);
            pages.copyFrom(other.pages);
            annals.copyFrom(other.annals);
        }

        boolean isOver() {
            return day > LAST_DAY;
        }

        boolean wentBy(int d) {
            return d >= 1 && d < day && d <= LAST_DAY;
        }

        /** Whether a PAGE that there is is FULFILLED, BROKEN or OPEN; of him, one of both is enough. */
        int stateOf(int k) {
            if (pages.who[k] != HIM) {
                return stateAsOf(k, pages.who[k]);
            }
            return stateAsOf(k, 0) == BROKEN ? stateAsOf(k, 1) : stateAsOf(k, 0);
        }

        /** The same, if it were told of that DUKE. */
        int stateAsOf(int k, int x) {
            if (!wentBy(pages.day[k])) {
                return OPEN;
            }
            return annals.confirm(pages.day[k], x, pages.deed[k], pages.field[k]) ? FULFILLED : BROKEN;
        }

        /** At how many FIELDS they fought. */
        int passDay() {
            for (int x = 0; x < DUKES; x++) {
                annals.putGoal(day, x, Orders.goalOf(order[x]));
            }
            for (int x = 0; x < DUKES; x++) {
                if (order[x] != NO_ORDER) {
                    armies.moveTo(Orders.armyOf(order[x]), Orders.goalOf(order[x]));
                }
            }
            int battles = 0;
            for (int f = 0; f < MAX_FIELDS; f++) {
                if (armies.fightAt(f)) {
                    battles |= 1 << f;
                }
            }
            annals.putBattles(day, battles);
            forgetOrders();
            day++;
            return Integer.bitCount(battles);
        }

        private void forgetOrders() {
            Arrays.fill(order, NO_ORDER);
        }
    }

    /** The numbers of ORDERS, and which of them a DUKE may give. */
    private static final class Orders {
        static int armyOf(int order) {
            return order == NO_ORDER ? NONE : (order - 1) / MAX_FIELDS;
        }

        static int goalOf(int order) {
            return order == NO_ORDER ? NONE : (order - 1) % MAX_FIELDS;
        }

        static boolean isOne(Land land, Now now, int x, int order) {
            if (order == NO_ORDER) {
                return true;
            }
            if (order < NO_ORDER || order > LAST_ORDER) {
                return false;
            }
            int a = armyOf(order);
            return now.armies.has(a) && now.armies.duke[a] == x && now.armies.troops[a] > 0
                && land.isRoad(now.armies.field[a], goalOf(order));
        }

        static int howManyDutiful(Land land, Now now, int x) {
            int many = 0;
            for (int order = NO_ORDER; order <= LAST_ORDER; order++) {
                if (isDutiful(land, now, x, order)) {
                    many++;
                }
            }
            return many;
        }

        static int dutifulAt(Land land, Now now, int x, int i) {
            int before = 0;
            for (int order = NO_ORDER; order <= LAST_ORDER; order++) {
                if (isDutiful(land, now, x, order)) {
                    if (before == i) {
                        return order;
                    }
                    before++;
                }
            }
            return NOT_SO_MANY;
        }

        private static boolean isDutiful(Land land, Now now, int x, int order) {
            if (!isOne(land, now, x, order)) {
                return false;
            }
            for (int k = 0; k < now.pages.size; k++) {
                if (now.pages.day[k] == now.day && now.pages.who[k] == x
                        && !obeys(order, now.pages.deed[k], now.pages.field[k])) {
                    return false;
                }
            }
            return true;
        }

        private static boolean obeys(int order, int deed, int f) {
            switch (deed) {
                case MARCHES: return goalOf(order) == f;
                case RESTS: return order == NO_ORDER;
                default: return true;
            }
        }
    }

    /** What can be said of the PAGES. */
    private static final class Monk {
        /** PAGES are read apart from one another, so that their ways multiply. */
        static int countReadings(Now now) {
            int ways = 1;
            for (int k = 0; k < now.pages.size; k++) {
                ways *= waysToRead(now, k);
            }
            return ways;
        }

        private static int waysToRead(Now now, int k) {
            int ways = 0;
            for (int x = 0; x < DUKES; x++) {
                boolean isMeant = now.pages.who[k] == HIM || now.pages.who[k] == x;
                if (isMeant && now.stateAsOf(k, x) != BROKEN) {
                    ways++;
                }
            }
            return ways;
        }

        static int countSentences(Annals annals, int d, int fields) {
            int many = 0;
            for (int x = 0; x < DUKES; x++) {
                for (int f = 0; f < fields; f++) {
                    many += annals.confirm(d, x, MARCHES, f) ? 1 : 0;
                    many += annals.confirm(d, x, FIGHTS, f) ? 1 : 0;
                }
                many += annals.confirm(d, x, RESTS, 0) ? 1 : 0;
            }
            return many;
        }

        static int firstClash(Pages pages) {
            for (int j = 0; j < pages.size; j++) {
                for (int k = j + 1; k < pages.size; k++) {
                    if (pages.areClashing(j, k)) {
                        return 10 * j + k;
                    }
                }
            }
            return NONE;
        }

        /** The PAGES to be struck, as bits: the fewest, and of several the least. */
        static int leastStruck(Now now) {
            int all = (1 << now.pages.size) - 1;
            int broken = brokenPages(now);
            int least = all;
            for (int struck = 0; struck < all; struck++) {
                boolean isFewer = Integer.bitCount(struck) < Integer.bitCount(least);
                if (isFewer && (broken & ~struck) == 0 && areAtPeace(now.pages, all & ~struck)) {
                    least = struck;
                }
            }
            return least;
        }

        private static int brokenPages(Now now) {
            int broken = 0;
            for (int k = 0; k < now.pages.size; k++) {
                if (now.stateOf(k) == BROKEN) {
                    broken |= 1 << k;
                }
            }
            return broken;
        }

        /** Whether no two of these PAGES (bits) CLASH. */
        private static boolean areAtPeace(Pages pages, int these) {
            for (int j = 0; j < pages.size; j++) {
                for (int k = j + 1; k < pages.size; k++) {
                    if ((these >> j & these >> k & 1) == 1 && pages.areClashing(j, k)) {
                        return false;
                    }
                }
            }
            return true;
        }
    }

    /** What NOW was ahead of the latest steps: a ring, so that the oldest makes room. */
    private static final class Past {
        int size = 0;
        private int next = 0;
        private final Now[] steps = new Now[KNOWN_STEPS];

        Past() {
            for (int i = 0; i < KNOWN_STEPS; i++) {
                steps[i] = new Now();
            }
        }

        void remember(Now now) {
            steps[next].copyFrom(now);
            next = next + 1 < KNOWN_STEPS ? next + 1 : 0;
            size = Math.min(size + 1, KNOWN_STEPS);
        }

        void takeBack(Now now) {
            if (size > 0) {
                next = next > 0 ? next - 1 : KNOWN_STEPS - 1;
                now.copyFrom(steps[next]);
                size--;
            }
        }

        void forgetAll() {
            size = 0;
        }
    }

    private static final class Images {
        final boolean[] isKept = new boolean[IMAGES];
        final Now[] kept = new Now[IMAGES];

        Images() {
            for (int i = 0; i < IMAGES; i++) {
                kept[i] = new Now();
            }
        }

        boolean has(int image) {
            return image >= 0 && image < IMAGES;
        }

        void put(int image, Now now) {
            if (has(image)) {
                kept[image].copyFrom(now);
                isKept[image] = true;
            }
        }

        void forgetAll() {
            for (int i = 0; i < IMAGES; i++) {
                isKept[i] = false;
            }
        }
    }

    /**
     * THE TEXT, and how it is read; what it tells is held apart, as a FAULT may come late. No DAY
     * goes by in toldNow: it is DAY 1 there, without ORDERS.
     */
    private static final class Text {
        private static final int END = -1, NUMBER = -2, NO_TOKEN = -3;

        int length = 0;
        final Land toldLand = new Land();
        final Now toldNow = new Now();
        private final int[] letters = new int[MAX_LETTERS];
        private int place = 0;
        private int token = END;
        private int tokenPlace = 0;
        private int number = 0;

        void add(int letter) {
            if (length < MAX_LETTERS) {
                letters[length] = letter;
                length++;
            }
        }

        /** How many ITEMS, or FAULT_BASE less the place of the TOKEN that can't stand there. */
        int readAll() {
            toldLand.reset();
            toldNow.armies.size = 0;
            toldNow.pages.size = 0;
            place = 0;
            for (int items = 0; items <= MAX_LETTERS; items++) {
                readToken();
                if (token == END) {
                    return items;
                }
                if (!readItem(items)) {
                    return FAULT_BASE - tokenPlace;
                }
            }
            return FAULT_BASE - length;
        }

        private boolean readItem(int itemsBefore) {
            switch (token) {
                case 'f': return itemsBefore == 0 && readFields();
                case 'r': return readRoad();
                case 'a': return toldNow.armies.size < MAX_ARMIES && readArmy();
                case 'p': return toldNow.pages.size < MAX_PAGES && readPage();
                default: return false;
            }
        }

        private boolean readFields() {
            if (!readNumber(MIN_FIELDS, MAX_FIELDS)) {
                return false;
            }
            toldLand.fields = number;
            return readItemEnd();
        }

        private boolean readRoad() {
            if (!readField()) {
                return false;
            }
            int from = number;
            if (!readField() || number == from) {
                return false;
            }
            toldLand.join(from, number);
            return readItemEnd();
        }

        private boolean readArmy() {
            if (!readNumber(0, DUKES - 1)) {
                return false;
            }
            int x = number;
            if (!readField()) {
                return false;
            }
            int f = number;
            if (!readNumber(1, MAX_TROOPS)) {
                return false;
            }
            toldNow.armies.add(x, f, number);
            return readItemEnd();
        }

        private boolean readPage() {
            if (!readNumber(1, LAST_DAY)) {
                return false;
            }
            int d = number;
            if (!readNumber(0, HIM)) {
                return false;
            }
            int x = number;
            if (!readNumber(MARCHES, RESTS)) {
                return false;
            }
            int w = number;
            if (!readField()) {
                return false;
            }
            toldNow.pages.add(d, x, w, number);
            return readItemEnd();
        }

        private boolean readField() {
            readToken();
            return token == NUMBER && toldLand.has(number);
        }

        private boolean readNumber(int from, int to) {
            readToken();
            return token == NUMBER && number >= from && number <= to;
        }

        private boolean readItemEnd() {
            readToken();
            return token == ';';
        }

        private void readToken() {
            skipBlanks();
            tokenPlace = place;
            if (place >= length) {
                token = END;
            } else if (isDigit(letters[place])) {
                readDigits();
            } else {
                token = letters[place];
                place++;
            }
        }

        private void skipBlanks() {
            while (place < length && letters[place] == ' ') {
                place++;
            }
        }

        /**
         * A third digit makes a NUMBER above 99 or stands behind a 0: both are no TOKENS. (What many
         * digits make of the number is not asked then.)
         */
        private void readDigits() {
            boolean isZeroAhead = letters[place] == '0';
            number = 0;
            while (place < length && isDigit(letters[place])) {
                number = 10 * number + letters[place] - '0';
                place++;
            }
            int digits = place - tokenPlace;
            token = digits > 2 || isZeroAhead && digits > 1 ? NO_TOKEN : NUMBER;
        }

        private static boolean isDigit(int letter) {
            return letter >= '0' && letter <= '9';
        }
    }
}
