import java.util.Arrays;

/** Roads that wear, walkers who wear them, cobblers who mend them. The document tells each call. */
public final class RoadCobblers {
    public static final int NONE = -6, UNKNOWN = -1, OUTSIDE = -2, STATE = -3, FULL = -4, NO = -5;
    public static final long LOST = -1000000000000000000L;

    private static final int PLACES = 9;
    private static final int WALKERS = 6;
    private static final int NOWHERE = -1;
    private static final int WORN_THROUGH = 9;
    private static final int AWAY = 100;
    private static final int DAYS_AWAY = 3;
    private static final int LAST_DAY = 99;

    private static final int PAD_SIGNS = 60;
    private static final int FIRST_SIGN = 33;
    private static final int LAST_SIGN = 126;

    private static final int CAN_BE = 0;
    private static final int NO_WALKER = 1;
    private static final int THERE_ALREADY = 2;
    private static final int NO_ROAD = 3;
    private static final int ROAD_AWAY = 4;
    private static final int ROAD_WORN = 5;
    private static final int BOTH_ONE = 6;
    private static final int DAYS_OVER = 7;

    private static final int MOST_MENDED = 8;
    private static final int MOST_HANDS = 4;
    private static final int MOST_PAYING = 9;
    /** Each of 1 to 9 divides it, so that every share of a mile is a whole number of these. */
    private static final int SHARES = 2520;

    private static final int MOST_SIGHTS = 8;
    private static final int SIGHT_DAYS = 20;
    private static final int SIGHT_VALUES = 9999;
    private static final int GUESSES = 1000;
    /** Behind ten days WEAR tells w and x + 2 y apart, so no later day leaves fewer. */
    private static final int ASKED_DAYS = 10;
    private static final int READINGS = 10 + ASKED_DAYS * 27;

    private static final int MOST_TACKS = 99;
    private static final int MOST_TAKEN = 9;
    private static final int TACK_SETS = 511;
    private static final int WET_DAYS = 16;
    private static final int WET_TENTHS = 10;
    private static final int WET_WEAR = 40;
    private static final int SEEDS = 9999;
    private static final int YEAR_ACTS = 99;

    private final Shire shire = new Shire();
    private final Sights sights = new Sights();
    private final Pad pad = new Pad();
    private final Trial trial = new Trial();
    private final Image firstImage = new Image();
    private final Image secondImage = new Image();

    private final int[] lengths = new int[PLACES];
    private final int[] loads = new int[1 << MOST_MENDED];
    private final int[] fewest = new int[1 << MOST_MENDED];
    private final int[] fitting = new int[GUESSES];
    private final int[] tally = new int[READINGS];
    private final int[] firstTakes = new int[MOST_TACKS + 1];
    private final long[] chances = new long[WET_DAYS + 1];

    public RoadCobblers() {
    }

    // ---- 1 roads, walkers, days

    public int road(int a, int b, int wear) {
        if (!areTwoPlaces(a, b)) return UNKNOWN;
        if (!within(wear, -1, WORN_THROUGH)) return OUTSIDE;
        shire.putRoad(a, b, wear < 0 ? NONE : wear);
        return shire.countRoads();
    }

    public int walker(int walker, int place, boolean iron) {
        if (!isWalker(walker) || !isPlace(place)) return UNKNOWN;
        shire.putWalker(walker, place, iron);
        return Integer.bitCount(shire.walkersThere());
    }

    public int say(int sign) {
        if (!within(sign, FIRST_SIGN, LAST_SIGN)) return OUTSIDE;
        if (pad.count >= PAD_SIGNS) return FULL;
        pad.add(sign);
        return pad.count;
    }

    public int wipe() {
        int before = pad.count;
        pad.empty();
        return before;
    }

    public int fault() {
        return pad.faultPlace();
    }

    // ---- 2 days

    public int judge(int what) {
        if (!within(what, 0, 1)) return OUTSIDE;
        if (pad.faultPlace() != NONE) return NO;
        trial.follow(pad, shire);
        return what == 0 ? trial.failedAct : trial.reason;
    }

    public int done() {
        if (!canBeDone()) return NO;
        shire.copyFrom(trial.shire);
        pad.empty();
        return trial.acts;
    }

    public int behind(int a, int b) {
        if (!areTwoPlaces(a, b)) return UNKNOWN;
        if (!canBeDone()) return NO;
        return trial.shire.roadBetween(a, b);
    }

    public int goes(int walker, int what) {
        if (!shire.isThere(walker)) return UNKNOWN;
        if (!within(what, 0, 1)) return OUTSIDE;
        if (!canBeDone()) return NO;
        return what == 0 ? trial.shire.placeOf(walker) : trial.shire.ironOf(walker);
    }

    public int then(int what) {
        if (!within(what, 0, 5)) return OUTSIDE;
        if (!canBeDone()) return NO;
        switch (what) {
            case 0: return trial.shire.countRoads();
            case 1: return trial.shire.addWear();
            case 2: return trial.shire.shutIn();
            case 3: return trial.shire.day;
            case 4: return trial.wornAct;
            default: return trial.shire.firstWorn;
        }
    }

    // ---- 3 ways, parts, strokes, mending, paying

    public int way(int a, int b, int what) {
        if (!isPlace(a) || !isPlace(b)) return UNKNOWN;
        if (!within(what, 0, 1)) return OUTSIDE;
        return leastWay(a, b, what == 1);
    }

    public int parts(int what) {
        if (!within(what, 0, 1)) return OUTSIDE;
        int count = 0;
        int first = NONE;
        for (int a = 0; a < PLACES; a++) {
            for (int b = a + 1; b < PLACES; b++) {
                if (shire.isOpen(a, b) && !holds(shire.reached(a, 1 << b), b)) {
                    count++;
                    if (first == NONE) first = nameOfRoad(a, b);
                }
            }
        }
        return what == 0 ? count : first;
    }

    public int strokes() {
        int walks = 0;
        int seenPlaces = 0;
        for (int place = 0; place < PLACES; place++) {
            if (!holds(seenPlaces, place)) {
                int joined = shire.reached(place, 0);
                seenPlaces |= joined;
                walks += walksWithin(joined);
            }
        }
        return walks;
    }

    public int mended(int row, int n, int h) {
        if (!within(n, 1, MOST_MENDED) || !within(h, 1, MOST_HANDS)) return OUTSIDE;
        if (!hasDigits(row, n)) return OUTSIDE;
        int sets = 1 << n;
        fillLoads(row, sets);
        for (int hand = 2; hand <= h; hand++) giveToOneMoreHand(sets);
        return at(fewest, sets - 1);
    }

    public long pays(int row, int n, int i, int part) {
        if (!within(n, 1, MOST_PAYING) || row < 0 || row >= powerOfTen(n)) return LOST + OUTSIDE;
        if (!within(i, 0, n - 1) || !within(part, 0, 1)) return LOST + OUTSIDE;
        int miles = digit(row, n - 1 - i);
        long shares = 0;
        for (int mile = 1; mile <= miles; mile++) {
            int users = countUsers(row, n, mile);
            if (users > 0) shares += SHARES / users;
        }
        return lowestTerms(shares, SHARES, part);
    }

    // ---- 4 who walked, tacks, wet days

    public int seen(boolean prints, int days, int v) {
        if (!within(days, 0, SIGHT_DAYS) || !within(v, 0, SIGHT_VALUES)) return OUTSIDE;
        if (sights.count >= MOST_SIGHTS) return FULL;
        sights.add(prints ? 1 : 0, days, v);
        return sights.count;
    }

    public int forget() {
        int before = sights.count;
        sights.count = 0;
        return before;
    }

    public int who(int i) {
        if (i < -1) return NONE;
        int count = gatherFitting();
        if (i == -1) return count;
        return i < count ? at(fitting, i) : NONE;
    }

    public int ask(int what) {
        if (!within(what, 0, 1)) return OUTSIDE;
        int count = gatherFitting();
        if (count == 0) return NONE;
        int best = 0;
        int least = GUESSES + 1;
        for (int days = 0; days <= ASKED_DAYS; days++) {
            for (int kind = 0; kind <= 1; kind++) {
                int left = mostLeft(kind, days, count);
                if (left < least) {
                    least = left;
                    best = 10 * days + kind;
                }
            }
        }
        return what == 0 ? best : least;
    }

    public int tacks(int n, int set, int what) {
        if (!within(n, 0, MOST_TACKS) || !within(set, 1, TACK_SETS) || !within(what, 0, 1)) return OUTSIDE;
        for (int left = 0; left <= n; left++) put(firstTakes, left, winningTake(left, set));
        int take = at(firstTakes, n);
        if (what == 0) return take == NONE ? 0 : 1;
        return take;
    }

    public long wet(int n, int t, int g, int what, int part) {
        if (!within(n, 0, WET_DAYS) || !within(t, 0, WET_TENTHS) || !within(g, 0, WET_WEAR)) return LOST + OUTSIDE;
        if (!within(what, 0, 1) || !within(part, 0, 1)) return LOST + OUTSIDE;
        if (what == 1) return lowestTerms(n * (10 + t), 10, part);
        fillChances(n, t);
        long upper = 0;
        for (int wetDays = 0; wetDays <= n && wetDays < chances.length; wetDays++) {
            if (n + wetDays >= g) upper += chances[wetDays];
        }
        return lowestTerms(upper, powerOfTen(n), part);
    }

    public int year(int seed, int m, int what) {
        if (!within(seed, 0, SEEDS) || !within(m, 1, YEAR_ACTS) || !within(what, 0, 2)) return OUTSIDE;
        trial.followDraws(seed, m, shire);
        switch (what) {
            case 0: return trial.shire.addWear();
            case 1: return Integer.bitCount(trial.shire.shutIn());
            default: return trial.shire.countOpen();
        }
    }

    public int image(int n) {
        if (!within(n, 0, 1)) return OUTSIDE;
        Image image = n == 0 ? firstImage : secondImage;
        image.shire.copyFrom(shire);
        image.sights.copyFrom(sights);
        image.kept = true;
        return 1;
    }

    public int restore(int n) {
        if (!within(n, 0, 1)) return OUTSIDE;
        Image image = n == 0 ? firstImage : secondImage;
        if (!image.kept) return STATE;
        shire.copyFrom(image.shire);
        sights.copyFrom(image.sights);
        return 1;
    }

    public int told(int what) {
        if (what == 0) return pad.count;
        if (what == 1) return shire.walkersThere();
        if (what == 2) return shire.day;
        if (what == 3) return sights.count;
        if (within(what, 10, 19)) return shire.isThere(what - 10) ? shire.placeOf(what - 10) : OUTSIDE;
        if (within(what, 20, 29)) return shire.isThere(what - 20) ? shire.ironOf(what - 20) : OUTSIDE;
        if (within(what, 30, 39)) return isPlace(what - 30) ? shire.openFrom(what - 30) : OUTSIDE;
        if (!within(what, 100, 199)) return OUTSIDE;
        int a = (what - 100) / 10;
        int b = (what - 100) % 10;
        return isPlace(a) && isPlace(b) ? shire.roadBetween(a, b) : OUTSIDE;
    }

    // what the calls are made of

    private boolean canBeDone() {
        if (pad.faultPlace() != NONE) return false;
        trial.follow(pad, shire);
        return trial.failedAct == NONE;
    }

    private int leastWay(int a, int b, boolean byWear) {
        Arrays.fill(lengths, NONE);
        put(lengths, a, 0);
        // a least way comes by no place twice: it has fewer roads than there are places
        for (int round = 1; round < PLACES; round++) {
            for (int from = 0; from < PLACES; from++) lengthenFrom(from, byWear);
        }
        return at(lengths, b);
    }

    private void lengthenFrom(int from, boolean byWear) {
        int length = at(lengths, from);
        if (length == NONE) return;
        for (int to = 0; to < PLACES; to++) {
            if (shire.isOpen(from, to)) {
                int longer = length + (byWear ? shire.roadBetween(from, to) : 1);
                int known = at(lengths, to);
                if (known == NONE || longer < known) put(lengths, to, longer);
            }
        }
    }

    /** Each walk ends at two places; only at those with an odd number of roads one has to. */
    private int walksWithin(int joined) {
        int ends = 0;
        int oddPlaces = 0;
        for (int place = 0; place < PLACES; place++) {
            if (holds(joined, place)) {
                int degree = Integer.bitCount(shire.openFrom(place));
                ends += degree;
                oddPlaces += degree % 2;
            }
        }
        if (ends == 0) return 0;
        return Math.max(1, oddPlaces / 2);
    }

    private void fillLoads(int row, int sets) {
        for (int set = 0; set < sets; set++) {
            int days = 0;
            for (int road = 0; road < MOST_MENDED; road++) {
                if (holds(set, road)) days += digit(row, road);
            }
            put(loads, set, days);
            put(fewest, set, days);
        }
    }

    private void giveToOneMoreHand(int sets) {
        // falling, since a set looks at its parts as they were with one hand less
        for (int set = sets - 1; set > 0; set--) {
            int least = at(fewest, set);
            for (int given = 1; given <= set; given++) {
                if ((given & set) == given) {
                    least = Math.min(least, Math.max(at(loads, given), at(fewest, set - given)));
                }
            }
            put(fewest, set, least);
        }
    }

    private int gatherFitting() {
        int count = 0;
        for (int guess = 0; guess < GUESSES; guess++) {
            if (sights.allowGuess(guess)) {
                put(fitting, count, guess);
                count++;
            }
        }
        return count;
    }

    private int mostLeft(int kind, int days, int count) {
        Arrays.fill(tally, 0);
        int most = 0;
        for (int i = 0; i < count; i++) {
            int value = reading(kind, days, at(fitting, i));
            int alike = at(tally, value) + 1;
            put(tally, value, alike);
            most = Math.max(most, alike);
        }
        return most;
    }

    private int winningTake(int left, int set) {
        for (int take = 1; take <= MOST_TAKEN && take <= left; take++) {
            if (holds(set, take - 1) && at(firstTakes, left - take) == NONE) return take;
        }
        return NONE;
    }

    /** chances[k]: of 10 to the n-th cases, those in which k of n days are wet. */
    private void fillChances(int n, int t) {
        Arrays.fill(chances, 0L);
        if (chances.length > 0) chances[0] = 1L;
        for (int day = 1; day <= n; day++) {
            for (int k = chances.length - 1; k >= 0; k--) {
                long wetter = k > 0 ? chances[k - 1] * t : 0L;
                chances[k] = chances[k] * (10 - t) + wetter;
            }
        }
    }

    // small helps

    private static boolean within(int value, int least, int most) {
        return value >= least && value <= most;
    }

    private static boolean isPlace(int place) {
        return place >= 0 && place < PLACES;
    }

    private static boolean isWalker(int walker) {
        return walker >= 0 && walker < WALKERS;
    }

    private static boolean areTwoPlaces(int a, int b) {
        return a >= 0 && a < PLACES && b >= 0 && b < PLACES && a != b;
    }

    private static int nameOfRoad(int a, int b) {
        return 10 * Math.min(a, b) + Math.max(a, b);
    }

    private static boolean holds(int set, int member) {
        return (set >> member & 1) == 1;
    }

    private static int at(int[] row, int index) {
        return index >= 0 && index < row.length ? row[index] : 0;
    }

    private static void put(int[] row, int index, int value) {
        if (index >= 0 && index < row.length) row[index] = value;
    }

    private static void copy(int[] from, int[] to) {
        for (int i = 0; i < to.length && i < from.length; i++) to[i] = from[i];
    }

    private static long powerOfTen(int n) {
        long power = 1;
        for (int i = 0; i < n; i++) power *= 10;
        return power;
    }

    /** The digit that k others stand behind. */
    private static int digit(int row, int k) {
        int rest = row;
        for (int i = 0; i < k; i++) rest /= 10;
        return rest % 10;
    }

    /** Whether the row is n digits, none of them 0. */
    private static boolean hasDigits(int row, int n) {
        if (row < 0 || row >= powerOfTen(n)) return false;
        for (int k = 0; k < n; k++) {
            if (digit(row, k) == 0) return false;
        }
        return true;
    }

    private static int countUsers(int row, int n, int mile) {
        int users = 0;
        for (int k = 0; k < n; k++) {
            if (digit(row, k) >= mile) users++;
        }
        return users;
    }

    private static long lowestTerms(long upper, long lower, int part) {
        long common = commonDivisor(upper, lower);
        long told = part == 0 ? upper : lower;
        return common > 0 ? told / common : told;
    }

    private static long commonDivisor(long upper, long lower) {
        long greater = upper;
        long lesser = lower;
        // each second step halves it at least, so 200 steps end it for any two longs
        for (int step = 0; step < 200 && lesser != 0; step++) {
            long rest = greater % lesser;
            greater = lesser;
            lesser = rest;
        }
        return greater;
    }

    /** What a sight tells behind so many days, if the guess 100 w + 10 x + y is right. */
    private static int reading(int kind, int days, int guess) {
        int w = guess / 100;
        int x = guess / 10 % 10;
        int y = guess % 10;
        return kind == 1 ? days * (x + y) : w + days * (x + 2 * y);
    }

    /** Roads, walkers and the day. An act that can not be answers why, and changes nothing. */
    private static final class Shire {
        /** Of each two places, both ways round: WEAR, or AWAY and the days, or NONE. */
        private final int[] roads = new int[PLACES * PLACES];
        private final int[] places = new int[WALKERS];
        private final int[] irons = new int[WALKERS];
        private int day = 0;
        /** The first road that a walk here wore through; NONE. */
        private int firstWorn = NONE;

        Shire() {
            Arrays.fill(roads, NONE);
            Arrays.fill(places, NOWHERE);
        }

        void copyFrom(Shire other) {
            copy(other.roads, roads);
            copy(other.places, places);
            copy(other.irons, irons);
            day = other.day;
            firstWorn = NONE;
        }

        int roadBetween(int a, int b) {
            return areTwoPlaces(a, b) ? at(roads, a * PLACES + b) : NONE;
        }

        void putRoad(int a, int b, int value) {
            if (!areTwoPlaces(a, b)) return;
            put(roads, a * PLACES + b, value);
            put(roads, b * PLACES + a, value);
        }

        boolean isOpen(int a, int b) {
            return within(roadBetween(a, b), 0, WORN_THROUGH - 1);
        }

        int openFrom(int place) {
            int bits = 0;
            for (int to = 0; to < PLACES; to++) {
                if (isOpen(place, to)) bits |= 1 << to;
            }
            return bits;
        }

        int countRoads() {
            int sides = 0;
            for (int i = 0; i < roads.length; i++) {
                if (roads[i] != NONE) sides++;
            }
            return sides / 2;
        }

        int countOpen() {
            int sides = 0;
            for (int place = 0; place < PLACES; place++) sides += Integer.bitCount(openFrom(place));
            return sides / 2;
        }

        int addWear() {
            int sides = 0;
            for (int i = 0; i < roads.length; i++) {
                if (within(roads[i], 0, WORN_THROUGH)) sides += roads[i];
            }
            return sides / 2;
        }

        /** The places joined to one by open roads, if of its own roads those to some are left out. */
        int reached(int from, int leftOut) {
            int bits = 1 << from | openFrom(from) & ~leftOut;
            for (int round = 1; round < PLACES; round++) {
                for (int place = 0; place < PLACES; place++) {
                    if (place != from && holds(bits, place)) bits |= openFrom(place);
                }
            }
            return bits;
        }

        boolean isThere(int walker) {
            return isWalker(walker) && at(places, walker) != NOWHERE;
        }

        int placeOf(int walker) {
            return at(places, walker);
        }

        int ironOf(int walker) {
            return at(irons, walker);
        }

        void putWalker(int walker, int place, boolean iron) {
            put(places, walker, place);
            put(irons, walker, iron ? 1 : 0);
        }

        int walkersThere() {
            int bits = 0;
            for (int walker = 0; walker < WALKERS; walker++) {
                if (isThere(walker)) bits |= 1 << walker;
            }
            return bits;
        }

        int shutIn() {
            int bits = 0;
            for (int walker = 0; walker < WALKERS; walker++) {
                if (isThere(walker) && openFrom(placeOf(walker)) == 0) bits |= 1 << walker;
            }
            return bits;
        }

        int walk(int walker, int place) {
            if (!isThere(walker)) return NO_WALKER;
            int from = placeOf(walker);
            if (from == place) return THERE_ALREADY;
            int road = roadBetween(from, place);
            if (road == NONE) return NO_ROAD;
            if (road >= AWAY) return ROAD_AWAY;
            if (road >= WORN_THROUGH) return ROAD_WORN;
            int worn = Math.min(WORN_THROUGH, road + 1 + ironOf(walker));
            putRoad(from, place, worn);
            put(places, walker, place);
            if (worn == WORN_THROUGH && firstWorn == NONE) firstWorn = nameOfRoad(from, place);
            return CAN_BE;
        }

        int changeIron(int walker) {
            if (!isThere(walker)) return NO_WALKER;
            put(irons, walker, 1 - ironOf(walker));
            return CAN_BE;
        }

        int bringIn(int a, int b) {
            int road = roadBetween(a, b);
            if (road == NONE) return NO_ROAD;
            if (road >= AWAY) return ROAD_AWAY;
            putRoad(a, b, AWAY + DAYS_AWAY);
            return CAN_BE;
        }

        int patch(int a, int b, int c, int d) {
            int road = roadBetween(a, b);
            int other = roadBetween(c, d);
            if (road == NONE || other == NONE) return NO_ROAD;
            if (road >= AWAY || other >= AWAY) return ROAD_AWAY;
            if (nameOfRoad(a, b) == nameOfRoad(c, d)) return BOTH_ONE;
            putRoad(a, b, road / 2);
            putRoad(c, d, NONE);
            return CAN_BE;
        }

        int passDay() {
            if (day >= LAST_DAY) return DAYS_OVER;
            day++;
            for (int i = 0; i < roads.length; i++) {
                if (roads[i] > AWAY) roads[i] = roads[i] == AWAY + 1 ? 0 : roads[i] - 1;
            }
            return CAN_BE;
        }
    }

    /** The signs that tell days. */
    private static final class Pad {
        private final int[] signs = new int[PAD_SIGNS];
        private int count = 0;

        void add(int sign) {
            if (count >= signs.length) return;
            put(signs, count, sign);
            count++;
        }

        void empty() {
            count = 0;
        }

        int signAt(int index) {
            return at(signs, index);
        }

        /** The place whose letter stands there; not one, if the sign is none. */
        int placeAt(int index) {
            return signAt(index) - 'a';
        }

        /** How many signs the act that begins there has; 0: none begins so. */
        int actLength(int index) {
            int sign = signAt(index);
            if (isWalker(sign - 'A')) return 2;
            if (sign == 'm') return 3;
            if (sign == 'p') return 5;
            return sign == '.' ? 1 : 0;
        }

        int faultPlace() {
            int start = 0;
            for (int act = 0; act < PAD_SIGNS && start < count; act++) {
                int length = actLength(start);
                if (length == 0) return start;
                for (int k = 1; k < length; k++) {
                    if (start + k >= count) return count;
                    if (!canGoOn(start, start + k)) return start + k;
                }
                start += length;
            }
            return NONE;
        }

        private boolean canGoOn(int start, int index) {
            boolean isWalk = actLength(start) == 2;
            return isPlace(placeAt(index)) || isWalk && signAt(index) == '^';
        }
    }

    /** A shire of its own on which acts are tried, and what came of them. */
    private static final class Trial {
        private final Shire shire = new Shire();
        private int acts = 0;
        private int failedAct = NONE;
        private int reason = NONE;
        private int wornAct = NONE;

        /** Takes the acts of a pad without a fault, up to the first that can not be. */
        void follow(Pad pad, Shire from) {
            begin(from);
            int start = 0;
            for (int act = 0; act < PAD_SIGNS && start < pad.count; act++) {
                int why = take(pad, start);
                if (why != CAN_BE) {
                    failedAct = act;
                    reason = why;
                    return;
                }
                if (wornAct == NONE && shire.firstWorn != NONE) wornAct = act;
                acts++;
                start += pad.actLength(start);
            }
        }

        private void begin(Shire from) {
            shire.copyFrom(from);
            acts = 0;
            failedAct = NONE;
            reason = NONE;
            wornAct = NONE;
        }

        private int take(Pad pad, int start) {
            int sign = pad.signAt(start);
            if (sign == '.') return shire.passDay();
            int a = pad.placeAt(start + 1);
            int b = pad.placeAt(start + 2);
            if (sign == 'm') return shire.bringIn(a, b);
            if (sign == 'p') return shire.patch(a, b, pad.placeAt(start + 3), pad.placeAt(start + 4));
            if (pad.signAt(start + 1) == '^') return shire.changeIron(sign - 'A');
            return shire.walk(sign - 'A', a);
        }

        void followDraws(int seed, int m, Shire from) {
            begin(from);
            int x = seed;
            for (int act = 0; act < m; act++) {
                x = (75 * x + 74) % 65537;
                takeDrawn(x);
            }
        }

        /** Why an act can not be is no matter here: it is left out then. */
        private void takeDrawn(int x) {
            int walker = x % 6;
            int kind = x / 6 % 8;
            int z = x / 48;
            if (kind == 7) shire.passDay();
            else if (kind == 6) shire.bringIn(z % 9, z / 9 % 9);
            else if (kind == 5) shire.changeIron(walker);
            else shire.walk(walker, z % 9);
        }
    }

    /** What was seen of a road, behind so many days each. */
    private static final class Sights {
        private final int[] kinds = new int[MOST_SIGHTS];
        private final int[] days = new int[MOST_SIGHTS];
        private final int[] values = new int[MOST_SIGHTS];
        private int count = 0;

        void copyFrom(Sights other) {
            copy(other.kinds, kinds);
            copy(other.days, days);
            copy(other.values, values);
            count = other.count;
        }

        void add(int kind, int day, int value) {
            if (count >= MOST_SIGHTS) return;
            put(kinds, count, kind);
            put(days, count, day);
            put(values, count, value);
            count++;
        }

        boolean allowGuess(int guess) {
            for (int i = 0; i < count && i < MOST_SIGHTS; i++) {
                if (reading(at(kinds, i), at(days, i), guess) != at(values, i)) return false;
            }
            return true;
        }
    }

    /** All but the pad, as it was when it was kept. */
    private static final class Image {
        private final Shire shire = new Shire();
        private final Sights sights = new Sights();
        private boolean kept = false;
    }
}
