/** What hangs on the arguments alone, over all of them or many; and calls of any arguments, which must not throw. */
public final class SweepTest {
    private static RoadCobblers x = new RoadCobblers();
    private static int calls = 0;
    private static final Model Y = new Model();
    private static final int[] ODD = {Integer.MIN_VALUE, -1000000007, -101, -7, -6, -5, -4, -3, -2, -1, 0, 1, 2, 3, 4, 5, 6, 8, 9,
        10, 16, 17, 20, 21, 34, 40, 60, 99, 100, 109, 188, 511, 512, 1000, 9999, 10000, 99999999, 999999999, Integer.MAX_VALUE};

    /** An object for one call more; what it answers after 512 calls is free. */
    private static RoadCobblers x() {
        if (calls == 512) {
            x = new RoadCobblers();
            calls = 0;
        }
        calls++;
        return x;
    }

    private static void tacks() {
        for (int set = 1; set <= 511; set++) {
            for (int n = 0; n <= 99; n += set % 7 == 0 ? 1 : 13) {
                Due.is("tacks(" + n + ", " + set + ", 0)", x().tacks(n, set, 0), Y.tacks(n, set, 0));
                Due.is("tacks(" + n + ", " + set + ", 1)", x().tacks(n, set, 1), Y.tacks(n, set, 1));
            }
        }
    }

    private static void wet() {
        for (int n = 0; n <= 16; n++) {
            for (int t = 0; t <= 10; t++) {
                for (int g = 0; g <= 40; g++) {
                    for (int k = 0; k < 4; k++) {
                        Due.is("wet(" + n + ", " + t + ", " + g + ", " + k / 2 + ", " + k % 2 + ")",
                            x().wet(n, t, g, k / 2, k % 2), Y.wet(n, t, g, k / 2, k % 2));
                    }
                }
            }
        }
    }

    private static void pays() {
        for (int row = 0; row <= 10000; row++) {
            int n = row % 2 == 0 ? 4 : 3 + row % 3;
            for (int k = 0; k < 2 * n; k++) {
                Due.is("pays(" + row + ", " + n + ", " + k / 2 + ", " + k % 2 + ")",
                    x().pays(row, n, k / 2, k % 2), Y.pays(row, n, k / 2, k % 2));
            }
        }
        for (int row = 100000003; row < 1000000000; row += 7654321) {
            for (int k = 0; k < 18; k++) {
                Due.is("pays(" + row + ", 9, " + k / 2 + ", " + k % 2 + ")",
                    x().pays(row, 9, k / 2, k % 2), Y.pays(row, 9, k / 2, k % 2));
            }
        }
    }

    private static void mended() {
        for (int row = 0; row <= 10000; row++) {
            int n = Integer.toString(row).length();
            int h = 1 + row % 4;
            Due.is("mended(" + row + ", " + n + ", " + h + ")", x().mended(row, n, h), Y.mended(row, n, h));
        }
        for (int row = 11111111; row < 100000000; row += 1234567) {
            for (int h = 1; h <= 3; h++) Due.is("mended(" + row + ", 8, " + h + ")", x().mended(row, 8, h), Y.mended(row, 8, h));
        }
        for (int row = 12345678; row < 100000000; row += 12345679) Due.is("mended(" + row + ", 8, 4)", x().mended(row, 8, 4), Y.mended(row, 8, 4));
    }

    /** Whatever is asked, in whatever order, an answer comes; beyond 512 calls too. */
    private static void anything() {
        long state = 1;
        RoadCobblers x = new RoadCobblers();
        int[] v = new int[5];
        for (int i = 0; i < 60000; i++) {
            for (int k = 0; k < 5; k++) {
                state = state * 6364136223846793005L + 1442695040888963407L;
                v[k] = ODD[(int) ((state >>> 33) % ODD.length)];
            }
            call(x, i % 25, v);
            if (i % 4096 == 0) x = new RoadCobblers();
        }
        Due.isTrue("every call answered", true);
    }

    private static void call(RoadCobblers x, int which, int[] v) {
        switch (which) {
            case 0: x.road(v[0], v[1], v[2]); break;
            case 1: x.walker(v[0], v[1], v[2] > 0); break;
            case 2: x.say(v[0] == 1 ? '.' : v[0] == 2 ? 'A' : v[0] == 3 ? 'm' : v[0] == 4 ? 'p' : 97 + Math.abs(v[1] % 9)); break;
            case 3: if (v[0] > 20) x.wipe(); break;
            case 4: x.fault(); break;
            case 5: x.judge(v[0]); break;
            case 6: x.done(); break;
            case 7: x.behind(v[0], v[1]); break;
            case 8: x.goes(v[0], v[1]); break;
            case 9: x.then(v[0]); break;
            case 10: x.way(v[0], v[1], v[2]); break;
            case 11: x.parts(v[0]); break;
            case 12: x.strokes(); break;
            case 13: x.mended(v[0], v[1], v[2]); break;
            case 14: x.pays(v[0], v[1], v[2], v[3]); break;
            case 15: x.seen(v[0] > 0, v[1], v[2]); break;
            case 16: if (v[0] > 20) x.forget(); break;
            case 17: x.who(v[0]); break;
            case 18: x.ask(v[0]); break;
            case 19: x.tacks(v[0], v[1], v[2]); break;
            case 20: x.wet(v[0], v[1], v[2], v[3], v[4]); break;
            case 21: x.year(v[0], v[1], v[2]); break;
            case 22: x.image(v[0]); break;
            case 23: x.restore(v[0]); break;
            default: x.told(v[0]); break;
        }
    }

    public static void main(String[] args) {
        tacks();
        wet();
        pays();
        mended();
        anything();
        Due.end();
    }
}
