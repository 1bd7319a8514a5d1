import java.math.BigInteger;
import java.util.ArrayList;
import java.util.Collections;
import java.util.HashMap;
import java.util.HashSet;
import java.util.List;
import java.util.Map;
import java.util.Set;
import java.util.TreeMap;
import java.util.regex.Matcher;
import java.util.regex.Pattern;

/** The document once more, by other means: slow, with texts and maps, to hold the program against. */
final class Model {
    static final int NONE = -6, UNKNOWN = -1, OUTSIDE = -2, STATE = -3, FULL = -4, NO = -5;
    static final long LOST = -1000000000000000000L;
    static final String ACT = "[A-F][a-i^]|m[a-i]{2}|p[a-i]{4}|\\.";
    static final Pattern ONE_ACT = Pattern.compile(ACT);
    static final Pattern BEGINNING = Pattern.compile("(?:" + ACT + ")*(?:[A-F]|m[a-i]?|p[a-i]{0,3})?");
    static final Pattern WHOLE = Pattern.compile("(?:" + ACT + ")*");

    /** Roads by their two letters in order; "w" and wear, or "d" and days away. */
    static final class World {
        final TreeMap<String, String> roads = new TreeMap<>();
        final TreeMap<Character, Character> places = new TreeMap<>();
        final Set<Character> iron = new HashSet<>();
        int day = 0;

        World twin() {
            World w = new World();
            w.roads.putAll(roads);
            w.places.putAll(places);
            w.iron.addAll(iron);
            w.day = day;
            return w;
        }

        boolean open(String key) {
            return roads.containsKey(key) && roads.get(key).startsWith("w") && !roads.get(key).equals("w9");
        }

        int code(String key) {
            if (!roads.containsKey(key)) return NONE;
            String r = roads.get(key);
            int v = Integer.parseInt(r.substring(1));
            return r.charAt(0) == 'w' ? v : 100 + v;
        }

        List<String> openRoads() {
            List<String> all = new ArrayList<>();
            for (String k : roads.keySet()) if (open(k)) all.add(k);
            return all;
        }

        int wear() {
            int sum = 0;
            for (String r : roads.values()) if (r.charAt(0) == 'w') sum += Integer.parseInt(r.substring(1));
            return sum;
        }

        int shut() {
            int bits = 0;
            for (char w : places.keySet()) {
                boolean out = false;
                for (String k : openRoads()) if (k.indexOf(places.get(w)) >= 0) out = true;
                if (!out) bits |= 1 << (w - 'A');
            }
            return bits;
        }
    }

    static final class Outcome {
        World world;
        int acts, failed = NONE, why = NONE, wornAct = NONE, wornRoad = NONE;
    }

    World now = new World();
    String pad = "";
    List<int[]> sights = new ArrayList<>();
    World[] keptWorlds = new World[2];
    List<List<int[]>> keptSights = new ArrayList<>(List.of(new ArrayList<>(), new ArrayList<>()));

    static boolean place(int p) { return p >= 0 && p <= 8; }
    static char letter(int p) { return (char) ('a' + p); }
    static String key(char a, char b) { return a < b ? "" + a + b : "" + b + a; }
    static String key(int a, int b) { return key(letter(a), letter(b)); }
    static int name(String key) { return 10 * (key.charAt(0) - 'a') + key.charAt(1) - 'a'; }

    int road(int a, int b, int wear) {
        if (!place(a) || !place(b) || a == b) return UNKNOWN;
        if (wear < -1 || wear > 9) return OUTSIDE;
        now.roads.remove(key(a, b));
        if (wear >= 0) now.roads.put(key(a, b), "w" + wear);
        return now.roads.size();
    }

    int walker(int walker, int place, boolean iron) {
        if (walker < 0 || walker > 5 || !place(place)) return UNKNOWN;
        char w = (char) ('A' + walker);
        now.places.put(w, letter(place));
        now.iron.remove(w);
        if (iron) now.iron.add(w);
        return now.places.size();
    }

    int say(int sign) {
        if (sign < 33 || sign > 126) return OUTSIDE;
        if (pad.length() == 60) return FULL;
        pad += (char) sign;
        return pad.length();
    }

    int wipe() {
        int n = pad.length();
        pad = "";
        return n;
    }

    int fault() {
        if (WHOLE.matcher(pad).matches()) return NONE;
        int k = 0;
        while (k < pad.length() && BEGINNING.matcher(pad.substring(0, k + 1)).matches()) k++;
        return k;
    }

    static int why(World w, String act) {
        Set<Integer> reasons = new HashSet<>();
        char c = act.charAt(0);
        if (c == '.') {
            if (w.day == 99) reasons.add(7);
        } else if (c == 'm' || c == 'p') {
            for (int i = 1; i < act.length(); i += 2) {
                String k = key(act.charAt(i), act.charAt(i + 1));
                if (!w.roads.containsKey(k)) reasons.add(3);
                else if (w.roads.get(k).startsWith("d")) reasons.add(4);
            }
            if (c == 'p' && key(act.charAt(1), act.charAt(2)).equals(key(act.charAt(3), act.charAt(4)))) reasons.add(6);
        } else if (!w.places.containsKey(c)) {
            reasons.add(1);
        } else if (act.charAt(1) != '^') {
            String k = key(w.places.get(c), act.charAt(1));
            if (w.places.get(c) == act.charAt(1)) reasons.add(2);
            if (!w.roads.containsKey(k)) reasons.add(3);
            else if (w.roads.get(k).startsWith("d")) reasons.add(4);
            else if (w.roads.get(k).equals("w9")) reasons.add(5);
        }
        return reasons.isEmpty() ? 0 : Collections.min(reasons);
    }

    /** The road worn through by the act, or null. */
    static String perform(World w, String act) {
        char c = act.charAt(0);
        if (c == '.') {
            w.day++;
            for (Map.Entry<String, String> e : w.roads.entrySet()) {
                if (e.getValue().equals("d1")) e.setValue("w0");
                else if (e.getValue().equals("d2")) e.setValue("d1");
                else if (e.getValue().equals("d3")) e.setValue("d2");
            }
        } else if (c == 'm') {
            w.roads.put(key(act.charAt(1), act.charAt(2)), "d3");
        } else if (c == 'p') {
            String k = key(act.charAt(1), act.charAt(2));
            w.roads.put(k, "w" + "0011223344".charAt(w.code(k)));
            w.roads.remove(key(act.charAt(3), act.charAt(4)));
        } else if (act.charAt(1) == '^') {
            if (!w.iron.remove(c)) w.iron.add(c);
        } else {
            String k = key(w.places.get(c), act.charAt(1));
            int wear = w.code(k) + (w.iron.contains(c) ? 2 : 1);
            w.roads.put(k, "w" + (wear > 9 ? 9 : wear));
            w.places.put(c, act.charAt(1));
            if (wear >= 9) return k;
        }
        return null;
    }

    Outcome outcome() {
        Outcome o = new Outcome();
        o.world = now.twin();
        Matcher m = ONE_ACT.matcher(pad);
        while (m.find()) {
            int why = why(o.world, m.group());
            if (why != 0) {
                o.failed = o.acts;
                o.why = why;
                return o;
            }
            String worn = perform(o.world, m.group());
            if (worn != null && o.wornAct == NONE) {
                o.wornAct = o.acts;
                o.wornRoad = name(worn);
            }
            o.acts++;
        }
        return o;
    }

    boolean no() { return fault() != NONE || outcome().failed != NONE; }

    int judge(int what) {
        if (what != 0 && what != 1) return OUTSIDE;
        if (fault() != NONE) return NO;
        return what == 0 ? outcome().failed : outcome().why;
    }

    int done() {
        if (no()) return NO;
        Outcome o = outcome();
        now = o.world;
        pad = "";
        return o.acts;
    }

    int behind(int a, int b) {
        if (!place(a) || !place(b) || a == b) return UNKNOWN;
        return no() ? NO : outcome().world.code(key(a, b));
    }

    int goes(int walker, int what) {
        if (walker < 0 || walker > 5 || !now.places.containsKey((char) ('A' + walker))) return UNKNOWN;
        if (what != 0 && what != 1) return OUTSIDE;
        if (no()) return NO;
        World w = outcome().world;
        char c = (char) ('A' + walker);
        return what == 0 ? w.places.get(c) - 'a' : w.iron.contains(c) ? 1 : 0;
    }

    int then(int what) {
        if (what < 0 || what > 5) return OUTSIDE;
        if (no()) return NO;
        Outcome o = outcome();
        return new int[] {o.world.roads.size(), o.world.wear(), o.world.shut(), o.world.day, o.wornAct, o.wornRoad}[what];
    }

    int way(int a, int b, int what) {
        if (!place(a) || !place(b)) return UNKNOWN;
        if (what != 0 && what != 1) return OUTSIDE;
        int far = 100000;
        int[][] d = new int[9][9];
        for (int i = 0; i < 9; i++) for (int j = 0; j < 9; j++) {
            d[i][j] = i == j ? 0 : now.open(key(i, j)) ? what == 0 ? 1 : now.code(key(i, j)) : far;
        }
        for (int k = 0; k < 9; k++) for (int i = 0; i < 9; i++) for (int j = 0; j < 9; j++) {
            d[i][j] = Math.min(d[i][j], d[i][k] + d[k][j]);
        }
        return d[a][b] >= far ? NONE : d[a][b];
    }

    static int pieces(List<String> roads) {
        String of = "abcdefghi";
        for (String k : roads) of = of.replace(of.charAt(k.charAt(0) - 'a'), of.charAt(k.charAt(1) - 'a'));
        return (int) of.chars().distinct().count();
    }

    int parts(int what) {
        if (what != 0 && what != 1) return OUTSIDE;
        List<Integer> found = new ArrayList<>();
        for (String k : now.openRoads()) {
            List<String> rest = new ArrayList<>(now.openRoads());
            rest.remove(k);
            if (pieces(rest) > pieces(now.openRoads())) found.add(name(k));
        }
        return what == 0 ? found.size() : found.isEmpty() ? NONE : Collections.min(found);
    }

    /** By trying out every walk; the number of roads must be small. */
    int strokes() {
        List<String> roads = now.openRoads();
        return fewestWalks(roads, 0, ' ', new HashMap<>());
    }

    private static int fewestWalks(List<String> roads, int walked, char at, Map<Integer, Integer> known) {
        if (walked == (1 << roads.size()) - 1) return 0;
        int state = walked * 128 + at;
        if (known.containsKey(state)) return known.get(state);
        int best = 1000;
        for (int i = 0; i < roads.size(); i++) {
            if ((walked >> i & 1) == 1) continue;
            char a = roads.get(i).charAt(0);
            char b = roads.get(i).charAt(1);
            int next = walked | 1 << i;
            best = Math.min(best, fewestWalks(roads, next, b, known) + (a == at ? 0 : 1));
            best = Math.min(best, fewestWalks(roads, next, a, known) + (b == at ? 0 : 1));
        }
        known.put(state, best);
        return best;
    }

    int mended(int row, int n, int h) {
        if (n < 1 || n > 8 || h < 1 || h > 4) return OUTSIDE;
        String text = Integer.toString(row);
        if (!text.matches("[1-9]{" + n + "}")) return OUTSIDE;
        return share(text, 0, new int[h]);
    }

    private static int share(String text, int i, int[] hands) {
        if (i == text.length()) {
            int most = 0;
            for (int d : hands) most = Math.max(most, d);
            return most;
        }
        int best = 1000;
        for (int k = 0; k < hands.length; k++) {
            hands[k] += text.charAt(i) - '0';
            best = Math.min(best, share(text, i + 1, hands));
            hands[k] -= text.charAt(i) - '0';
        }
        return best;
    }

    static long part(BigInteger upper, BigInteger lower, int part) {
        BigInteger g = upper.gcd(lower);
        return (part == 0 ? upper : lower).divide(g).longValueExact();
    }

    long pays(int row, int n, int i, int part) {
        String text = Integer.toString(row);
        if (n < 1 || n > 9 || !text.matches("[0-9]{1," + n + "}")) return LOST + OUTSIDE;
        if (i < 0 || i >= n || part < 0 || part > 1) return LOST + OUTSIDE;
        while (text.length() < n) text = "0" + text;
        BigInteger upper = BigInteger.ZERO;
        BigInteger lower = BigInteger.ONE;
        for (char mile = '1'; mile <= text.charAt(i); mile++) {
            int users = 0;
            for (char c : text.toCharArray()) if (c >= mile) users++;
            upper = upper.multiply(BigInteger.valueOf(users)).add(lower);
            lower = lower.multiply(BigInteger.valueOf(users));
        }
        return part(upper, lower, part);
    }

    int seen(boolean prints, int days, int v) {
        if (days < 0 || days > 20 || v < 0 || v > 9999) return OUTSIDE;
        if (sights.size() == 8) return FULL;
        sights.add(new int[] {prints ? 1 : 0, days, v});
        return sights.size();
    }

    int forget() {
        int n = sights.size();
        sights = new ArrayList<>();
        return n;
    }

    static int sight(int kind, int days, int guess) {
        int w = guess / 100;
        int x = guess % 100 / 10;
        int y = guess % 10;
        int value = kind == 0 ? w : 0;
        for (int d = 0; d < days; d++) value += kind == 0 ? x + y + y : x + y;
        return value;
    }

    List<Integer> fitting() {
        List<Integer> all = new ArrayList<>();
        for (int guess = 0; guess < 1000; guess++) {
            boolean fits = true;
            for (int[] s : sights) if (sight(s[0], s[1], guess) != s[2]) fits = false;
            if (fits) all.add(guess);
        }
        return all;
    }

    int who(int i) {
        List<Integer> all = fitting();
        if (i == -1) return all.size();
        return i < 0 || i >= all.size() ? NONE : all.get(i);
    }

    int ask(int what) {
        if (what != 0 && what != 1) return OUTSIDE;
        List<Integer> all = fitting();
        if (all.isEmpty()) return NONE;
        TreeMap<Integer, Integer> questions = new TreeMap<>();
        for (int question = 209; question >= 0; question--) {
            if (question % 10 > 1) continue;
            Map<Integer, Integer> answers = new HashMap<>();
            for (int guess : all) answers.merge(sight(question % 10, question / 10, guess), 1, Integer::sum);
            questions.put(Collections.max(answers.values()), question);
        }
        return what == 0 ? questions.firstEntry().getValue() : questions.firstKey();
    }

    int tacks(int n, int set, int what) {
        if (n < 0 || n > 99 || set < 1 || set > 511 || what < 0 || what > 1) return OUTSIDE;
        List<Integer> wins = winning(n, set, new HashMap<>());
        if (what == 0) return wins.isEmpty() ? 0 : 1;
        return wins.isEmpty() ? NONE : Collections.min(wins);
    }

    private static List<Integer> winning(int n, int set, Map<Integer, List<Integer>> known) {
        if (known.containsKey(n)) return known.get(n);
        List<Integer> wins = new ArrayList<>();
        for (int take = 9; take >= 1; take--) {
            if ((set & 1 << (take - 1)) == 0 || take > n) continue;
            if (winning(n - take, set, known).isEmpty()) wins.add(take);
        }
        known.put(n, wins);
        return wins;
    }

    long wet(int n, int t, int g, int what, int part) {
        if (n < 0 || n > 16 || t < 0 || t > 10 || g < 0 || g > 40 || what < 0 || what > 1 || part < 0 || part > 1) {
            return LOST + OUTSIDE;
        }
        BigInteger all = BigInteger.TEN.pow(n);
        BigInteger upper = BigInteger.ZERO;
        for (int k = 0; k <= n; k++) {
            BigInteger cases = choose(n, k).multiply(BigInteger.valueOf(t).pow(k)).multiply(BigInteger.valueOf(10 - t).pow(n - k));
            if (what == 1) upper = upper.add(cases.multiply(BigInteger.valueOf(n + k)));
            else if (n + k >= g) upper = upper.add(cases);
        }
        return part(upper, all, part);
    }

    private static BigInteger choose(int n, int k) {
        BigInteger c = BigInteger.ONE;
        for (int i = 0; i < k; i++) c = c.multiply(BigInteger.valueOf(n - i)).divide(BigInteger.valueOf(i + 1));
        return c;
    }

    int year(int seed, int m, int what) {
        if (seed < 0 || seed > 9999 || m < 1 || m > 99 || what < 0 || what > 2) return OUTSIDE;
        World w = now.twin();
        long x = seed;
        for (int i = 0; i < m; i++) {
            x = (75 * x + 74) % 65537;
            String who = "" + "ABCDEF".charAt((int) (x % 6));
            long z = x / 48;
            char p = letter((int) (z % 9));
            char q = letter((int) (z / 9 % 9));
            String act = new String[] {who + p, who + p, who + p, who + p, who + p, who + "^", "m" + p + q, "."}[(int) (x / 6 % 8)];
            if (why(w, act) == 0) perform(w, act);
        }
        return what == 0 ? w.wear() : what == 1 ? Integer.bitCount(w.shut()) : w.openRoads().size();
    }

    int image(int n) {
        if (n != 0 && n != 1) return OUTSIDE;
        keptWorlds[n] = now.twin();
        keptSights.set(n, new ArrayList<>(sights));
        return 1;
    }

    int restore(int n) {
        if (n != 0 && n != 1) return OUTSIDE;
        if (keptWorlds[n] == null) return STATE;
        now = keptWorlds[n].twin();
        sights = new ArrayList<>(keptSights.get(n));
        return 1;
    }

    int told(int what) {
        if (what == 0) return pad.length();
        if (what == 1) {
            int bits = 0;
            for (char w : now.places.keySet()) bits += 1 << (w - 'A');
            return bits;
        }
        if (what == 2) return now.day;
        if (what == 3) return sights.size();
        String text = Integer.toString(what);
        if (text.matches("[12][0-5]")) {
            char w = (char) ('A' + text.charAt(1) - '0');
            if (!now.places.containsKey(w)) return OUTSIDE;
            return text.charAt(0) == '1' ? now.places.get(w) - 'a' : now.iron.contains(w) ? 1 : 0;
        }
        if (text.matches("3[0-8]")) {
            int bits = 0;
            for (int p = 0; p < 9; p++) if (now.open(key(what - 30, p))) bits |= 1 << p;
            return bits;
        }
        if (text.matches("1[0-8][0-8]")) return now.code(key(text.charAt(1) - '0', text.charAt(2) - '0'));
        return OUTSIDE;
    }
}
