/** Long runs of drawn calls, each held against the model; after each call all that told() tells is too, now and then. */
public final class ModelTest {
    private static final int RUNS = 700;
    /** What is told at the end of a run are some 220 calls more; together they stay under 512. */
    private static final int CALLS = 280;
    private static long state = 20261119L;
    private static RoadCobblers x;
    private static Model y;
    private static String run = "";
    private static int calls = 0;

    private static int draw(int n) {
        state = state * 6364136223846793005L + 1442695040888963407L;
        return (int) ((state >>> 33) % n);
    }

    /** Mostly within least to most, now and then just outside, seldom far out. */
    private static int number(int least, int most) {
        int kind = draw(40);
        if (kind == 0) return least - 1;
        if (kind == 1) return most + 1;
        if (kind == 2) return new int[] {Integer.MIN_VALUE, Integer.MAX_VALUE, -1000, 100000}[draw(4)];
        return least + draw(most - least + 1);
    }

    private static int place() {
        return number(0, 8);
    }

    private static void due(String call, long got, long want) {
        calls++;
        Due.is(run + " " + call, got, want);
    }

    private static void say(String text) {
        for (char c : text.toCharArray()) due("say(" + (int) c + ")", x.say(c), y.say(c));
    }

    private static String letter() {
        return "" + (char) ('a' + draw(9));
    }

    /** A road that there is, as two letters either way round; any two letters if there is none. */
    private static String roadThere() {
        if (y.now.roads.isEmpty() || draw(12) == 0) return letter() + letter();
        String key = y.now.roads.keySet().toArray(new String[0])[draw(y.now.roads.size())];
        return draw(2) == 0 ? key : "" + key.charAt(1) + key.charAt(0);
    }

    /** Two letters after which a walk can be: whither a road leads from where he is behind the pad. */
    private static String walk() {
        Model.World world = y.no() ? y.now : y.outcome().world;
        if (world.places.isEmpty() || draw(15) == 0) return (char) ('A' + draw(6)) + letter();
        char who = world.places.keySet().toArray(new Character[0])[draw(world.places.size())];
        char from = world.places.get(who);
        for (int i = 0; i < 30; i++) {
            String to = letter();
            if (world.open(Model.key(from, to.charAt(0)))) return who + to;
        }
        return who + letter();
    }

    private static String act() {
        int kind = draw(20);
        if (kind < 9) return walk();
        if (kind < 11) return (char) ('A' + draw(6)) + "^";
        if (kind < 14) return "m" + roadThere();
        if (kind < 16) return "p" + roadThere() + roadThere();
        if (kind < 19) return ".";
        return "" + (char) (33 + draw(94));
    }

    private static void sayAnAct() {
        String act = act();
        say(draw(40) == 0 ? act.substring(0, act.length() - 1) : act);
    }

    private static void judgeAll() {
        due("fault()", x.fault(), y.fault());
        due("judge(0)", x.judge(0), y.judge(0));
        due("judge(1)", x.judge(1), y.judge(1));
        for (int what = -1; what <= 6; what++) due("then(" + what + ")", x.then(what), y.then(what));
    }

    private static void toldAll() {
        for (int what = 0; what < 200; what++) due("told(" + what + ")", x.told(what), y.told(what));
    }

    private static void days() {
        int kind = draw(16);
        if (kind < 8) {
            sayAnAct();
        } else if (kind < 10) {
            judgeAll();
        } else if (kind == 10) {
            due("done()", x.done(), y.done());
        } else if (kind == 11 && (draw(3) == 0 || y.no())) {
            due("wipe()", x.wipe(), y.wipe());
        } else if (kind < 14) {
            int a = place();
            int b = place();
            due("behind(" + a + ", " + b + ")", x.behind(a, b), y.behind(a, b));
        } else {
            int walker = number(0, 5);
            int what = number(0, 1);
            due("goes(" + walker + ", " + what + ")", x.goes(walker, what), y.goes(walker, what));
        }
    }

    private static void roads() {
        if (draw(3) > 0) {
            int a = place();
            int b = place();
            int wear = number(-1, 9);
            due("road(" + a + ", " + b + ", " + wear + ")", x.road(a, b, wear), y.road(a, b, wear));
        } else {
            int walker = number(0, 5);
            int at = place();
            boolean iron = draw(2) == 0;
            due("walker(" + walker + ", " + at + ", " + iron + ")", x.walker(walker, at, iron), y.walker(walker, at, iron));
        }
    }

    private static void ways() {
        int a = place();
        int b = place();
        int what = number(0, 1);
        due("way(" + a + ", " + b + ", " + what + ")", x.way(a, b, what), y.way(a, b, what));
        due("parts(" + what + ")", x.parts(what), y.parts(what));
        if (y.now.openRoads().size() <= 9) due("strokes()", x.strokes(), y.strokes());
    }

    private static int row(int n) {
        int row = 0;
        for (int i = 0; i < n; i++) row = 10 * row + (draw(60) == 0 ? 0 : 1 + draw(9));
        return draw(40) == 0 ? -row : row;
    }

    private static void sums() {
        int n = number(1, 8);
        int row = row(Math.max(1, Math.min(9, n)) + (draw(20) == 0 ? -1 : 0));
        int h = number(1, 4);
        if (draw(2) == 0) {
            due("mended(" + row + ", " + n + ", " + h + ")", x.mended(row, n, h), y.mended(row, n, h));
            return;
        }
        int i = number(0, 8);
        int part = number(0, 1);
        n = number(1, 9);
        due("pays(" + row + ", " + n + ", " + i + ", " + part + ")", x.pays(row, n, i, part), y.pays(row, n, i, part));
    }

    /** Sights of one road alone, that it can be found out by; now and then one that fits nothing. */
    private static void look(int secret) {
        int days = number(0, 20);
        boolean prints = draw(2) == 0;
        int v = draw(12) == 0 ? number(0, 9999) : Model.sight(prints ? 1 : 0, Math.max(0, Math.min(20, days)), secret);
        due("seen(" + prints + ", " + days + ", " + v + ")", x.seen(prints, days, v), y.seen(prints, days, v));
    }

    private static void guesses(int secret) {
        int kind = draw(9);
        if (kind < 4) {
            look(secret);
        } else if (kind == 4) {
            if (draw(2) == 0) due("forget()", x.forget(), y.forget());
        } else if (kind < 7) {
            int count = y.who(-1);
            int i = draw(4) == 0 ? number(-2, 1000) : draw(count + 2) - 1;
            due("who(" + i + ")", x.who(i), y.who(i));
            due("who(-1)", x.who(-1), count);
        } else if (kind == 7) {
            int what = number(0, 1);
            due("ask(" + what + ")", x.ask(what), y.ask(what));
        }
    }

    private static void games() {
        int n = number(0, 99);
        int set = number(1, 511);
        int what = number(0, 1);
        if (draw(2) == 0) {
            due("tacks(" + n + ", " + set + ", " + what + ")", x.tacks(n, set, what), y.tacks(n, set, what));
            return;
        }
        n = number(0, 16);
        int t = number(0, 10);
        int g = number(0, 40);
        int part = number(0, 1);
        due("wet(" + n + ", " + t + ", " + g + ", " + what + ", " + part + ")",
            x.wet(n, t, g, what, part), y.wet(n, t, g, what, part));
    }

    private static void keep() {
        int kind = draw(5);
        int n = number(0, 1);
        if (kind == 0) {
            due("image(" + n + ")", x.image(n), y.image(n));
        } else if (kind == 1) {
            due("restore(" + n + ")", x.restore(n), y.restore(n));
        } else if (kind == 2) {
            int what = number(0, 199);
            due("told(" + what + ")", x.told(what), y.told(what));
        } else {
            int seed = number(0, 9999);
            int m = number(1, 99);
            int what = number(0, 2);
            due("year(" + seed + ", " + m + ", " + what + ")", x.year(seed, m, what), y.year(seed, m, what));
        }
    }

    private static void step(int leaning, int secret) {
        int kind = draw(16);
        if (leaning == 0 && kind < 10 || kind < 4) days();
        else if (leaning == 1 && kind < 10 || kind == 4) roads();
        else if (leaning == 2 && kind < 11) guesses(secret);
        else if (kind < 12) ways();
        else if (kind == 12) sums();
        else if (kind == 13) guesses(secret);
        else if (kind == 14) games();
        else keep();
    }

    public static void main(String[] args) {
        for (int i = 0; i < RUNS; i++) {
            run = "run " + i + ":";
            x = new RoadCobblers();
            y = new Model();
            calls = 0;
            int many = draw(36);
            for (int k = 0; k < many; k++) roads();
            int leaning = draw(4);
            int secret = draw(1000);
            for (int k = 0; k < 60 && calls < CALLS; k++) step(leaning, secret);
            toldAll();
            judgeAll();
        }
        Due.end();
    }
}
