/** Each promise by examples: ordinary calls, the edges that the document names, wrong calls. */
public final class PromiseTest {
    private static final int NONE = -6, UNKNOWN = -1, OUTSIDE = -2, STATE = -3, FULL = -4, NO = -5;
    private static final long LOST = -1000000000000000000L;
    private static final int[] FAR = {Integer.MIN_VALUE, -1000000, 1000000, Integer.MAX_VALUE};

    private static void due(String call, long got, long want) {
        Due.is(call, got, want);
    }

    private static RoadCobblers saying(RoadCobblers x, String text) {
        x.wipe();
        for (char c : text.toCharArray()) x.say(c);
        return x;
    }

    /** a-b 0, b-c 7, a-c 3; A at a without iron, B at b with iron. */
    private static RoadCobblers triangle() {
        RoadCobblers x = new RoadCobblers();
        x.road(0, 1, 0);
        x.road(1, 2, 7);
        x.road(0, 2, 3);
        x.walker(0, 0, false);
        x.walker(1, 1, true);
        return x;
    }

    private static RoadCobblers roads(String... names) {
        RoadCobblers x = new RoadCobblers();
        for (String n : names) x.road(n.charAt(0) - 'a', n.charAt(1) - 'a', n.length() > 2 ? n.charAt(2) - '0' : 1);
        return x;
    }

    private static RoadCobblers complete(int places) {
        RoadCobblers x = new RoadCobblers();
        for (int a = 0; a < places; a++) for (int b = a + 1; b < places; b++) x.road(a, b, 0);
        return x;
    }

    private static void promise1() {
        RoadCobblers x = new RoadCobblers();
        for (int i = 0; i < 4; i++) due("1 told " + i, x.told(i), 0);
        for (int w = 0; w < 6; w++) {
            due("1 told place", x.told(10 + w), OUTSIDE);
            due("1 told iron", x.told(20 + w), OUTSIDE);
        }
        for (int a = 0; a < 9; a++) {
            due("1 told open", x.told(30 + a), 0);
            for (int b = 0; b < 9; b++) due("1 told road", x.told(100 + 10 * a + b), NONE);
        }
        due("1 fault", x.fault(), NONE);
        due("1 restore(0)", x.restore(0), STATE);
        due("1 restore(1)", x.restore(1), STATE);
        RoadCobblers other = new RoadCobblers();
        x.road(0, 1, 1);
        due("1 objects are apart", other.told(101), NONE);
    }

    private static void promise2() {
        RoadCobblers x = new RoadCobblers();
        due("2 first", x.road(0, 8, 9), 1);
        due("2 second", x.road(8, 7, 0), 2);
        due("2 told", x.told(187), 0);
        due("2 told, the other way round", x.told(178), 0);
        due("2 anew", x.road(8, 0, 4), 2);
        due("2 anew told", x.told(108), 4);
        due("2 none", x.road(8, 0, -1), 1);
        due("2 none twice", x.road(0, 8, -1), 1);
        due("2 one and the same", x.road(3, 3, 1), UNKNOWN);
        due("2 unknown first", x.road(3, 3, 10), UNKNOWN);
        due("2 unknown a", x.road(-1, 3, 1), UNKNOWN);
        due("2 unknown b", x.road(3, 9, 1), UNKNOWN);
        due("2 outside", x.road(3, 4, 10), OUTSIDE);
        due("2 outside below", x.road(3, 4, -2), OUTSIDE);
        for (int far : FAR) {
            due("2 far a", x.road(far, 1, 1), UNKNOWN);
            due("2 far b", x.road(1, far, 1), UNKNOWN);
            due("2 far wear", x.road(1, 2, far), OUTSIDE);
        }
        due("2 refusals change nothing", x.told(134), NONE);
        saying(x, "mhi").done();
        due("2 away counts", x.road(0, 1, 1), 2);
        due("2 away", x.told(178), 103);
        due("2 away no more", x.road(7, 8, 2), 2);
        due("2 away no more, told", x.told(178), 2);
        due("2 all", complete(9).road(0, 1, 0), 36);
    }

    private static void promise3() {
        RoadCobblers x = new RoadCobblers();
        due("3 first", x.walker(5, 8, true), 1);
        due("3 place", x.told(15), 8);
        due("3 iron", x.told(25), 1);
        due("3 second", x.walker(0, 8, false), 2);
        due("3 anew", x.walker(5, 0, false), 2);
        due("3 place anew", x.told(15), 0);
        due("3 iron anew", x.told(25), 0);
        due("3 bits", x.told(1), 33);
        due("3 unknown walker", x.walker(6, 0, true), UNKNOWN);
        due("3 unknown walker below", x.walker(-1, 0, true), UNKNOWN);
        due("3 unknown place", x.walker(1, 9, true), UNKNOWN);
        due("3 unknown place below", x.walker(1, -1, true), UNKNOWN);
        for (int far : FAR) {
            due("3 far walker", x.walker(far, 0, true), UNKNOWN);
            due("3 far place", x.walker(1, far, true), UNKNOWN);
        }
        due("3 refusals change nothing", x.told(1), 33);
    }

    private static void promise4() {
        RoadCobblers x = new RoadCobblers();
        due("4 least", x.say(33), 1);
        due("4 greatest", x.say(126), 2);
        due("4 outside below", x.say(32), OUTSIDE);
        due("4 outside above", x.say(127), OUTSIDE);
        for (int far : FAR) due("4 far", x.say(far), OUTSIDE);
        for (int i = 3; i <= 60; i++) due("4 sign", x.say('.'), i);
        due("4 full", x.say('.'), FULL);
        due("4 outside ahead of full", x.say(127), OUTSIDE);
        due("4 told", x.told(0), 60);
    }

    private static void promise5() {
        RoadCobblers x = saying(new RoadCobblers(), "xyz");
        due("5 signs", x.wipe(), 3);
        due("5 empty", x.wipe(), 0);
        due("5 no fault behind it", x.fault(), NONE);
        due("5 room again", x.say('.'), 1);
    }

    private static void faultIs(String text, int want) {
        due("6 fault of " + text, saying(new RoadCobblers(), text).fault(), want);
    }

    private static void promise6() {
        String[] fine = {"", "Aa", "Fi", "A^", "F^", "mab", "maa", "mih", "pabcd", "pabab", "paaaa", ".", "....", "Aa.mabpabcdB^"};
        for (String text : fine) faultIs(text, NONE);
        String[] first = {"a", "i", "^", "G", "@", "M", "P", "n", "o", "q", "!", "~", "-", "/", "0", "`", "j"};
        for (String text : first) {
            faultIs(text, 0);
            faultIs("." + text, 1);
            faultIs("Ab" + text + "zz", 2);
        }
        String[] second = {"Aj", "A`", "AA", "A.", "A]", "A_", "m^a", "mAa", "m.a", "mja", "p^", "pj", "mm", "pp"};
        for (String text : second) faultIs(text, 1);
        String[] more = {"A", "F", "m", "ma", "p", "pa", "pab", "pabc", ".A", "AbB", "mabm", "mabpabc"};
        for (String text : more) faultIs(text, text.length());
        faultIs("ma^", 2);
        faultIs("pab^", 3);
        faultIs("pabcj", 4);
        faultIs("pabc.", 4);
        faultIs("Aa" + "Bj" + "G", 3);
        faultIs("............................................................", NONE);
        faultIs("...........................................................A", 60);
        faultIs("...........................................................a", 59);
    }

    private static void judged(RoadCobblers x, String text, int act, int why) {
        saying(x, text);
        due("7 judge(0) of " + text, x.judge(0), act);
        due("7 judge(1) of " + text, x.judge(1), why);
        due("8 done of what is judged " + text, act == NONE ? 0 : x.done(), act == NONE ? 0 : NO);
    }

    private static void promise7() {
        judged(triangle(), "", NONE, NONE);
        judged(triangle(), "Ab", NONE, NONE);
        judged(triangle(), "Ca", 0, 1);
        judged(triangle(), "AbF^", 1, 1);
        judged(triangle(), "Aa", 0, 2);
        judged(triangle(), "AbAb", 1, 2);
        judged(triangle(), "Ad", 0, 3);
        judged(triangle(), "mad", 0, 3);
        judged(triangle(), "maa", 0, 3);
        judged(triangle(), "padab", 0, 3);
        judged(triangle(), "pabad", 0, 3);
        judged(triangle(), "paaaa", 0, 3);
        judged(triangle(), "mabAb", 1, 4);
        judged(triangle(), "mabmba", 1, 4);
        judged(triangle(), "mabpabbc", 1, 4);
        judged(triangle(), "mabpbcab", 1, 4);
        judged(triangle(), "mabpabab", 1, 4);
        judged(triangle(), "mabpabad", 1, 3);
        judged(triangle(), "mabpadab", 1, 3);
        judged(triangle(), "BcBb", 1, 5);
        judged(triangle(), "Bcmbc", NONE, NONE);
        judged(triangle(), "Bcpbcab", NONE, NONE);
        judged(triangle(), "Bcpabbc", NONE, NONE);
        judged(triangle(), "pabab", 0, 6);
        judged(triangle(), "pabba", 0, 6);
        judged(triangle(), "mab...Ab", NONE, NONE);
        judged(triangle(), "mab..Ab", 3, 4);
        judged(triangle(), "pabbcBc", 1, 3);
        judged(new RoadCobblers(), "A^", 0, 1);
        RoadCobblers x = triangle();
        due("7 outside", x.judge(2), OUTSIDE);
        due("7 outside below", x.judge(-1), OUTSIDE);
        for (int far : FAR) due("7 far", x.judge(far), OUTSIDE);
        saying(x, "A");
        due("7 a fault", x.judge(0), NO);
        due("7 a fault, why", x.judge(1), NO);
        due("7 outside ahead of a fault", x.judge(2), OUTSIDE);
        saying(x, "CaG");
        due("7 a fault behind an act that can not be", x.judge(0), NO);
        due("7 judging changes nothing", x.told(0), 3);
    }

    /** A triangle so many days later. */
    private static RoadCobblers onDay(int day) {
        RoadCobblers x = triangle();
        for (int left = day; left > 0; left -= 60) saying(x, ".".repeat(Math.min(60, left))).done();
        return x;
    }

    private static void promise7days() {
        judged(onDay(98), ".", NONE, NONE);
        judged(onDay(98), "..", 1, 7);
        judged(onDay(99), ".", 0, 7);
        judged(onDay(99), "Abmbc.", 2, 7);
        due("7 the 99th", onDay(99).told(2), 99);
        RoadCobblers x = saying(onDay(99), ".");
        due("7 no 100th", x.done(), NO);
        due("7 it is the 99th still", x.told(2), 99);
    }

    private static void promise8() {
        RoadCobblers x = triangle();
        due("8 none", x.done(), 0);
        saying(x, "AbAcB^mab..");
        due("8 acts", x.done(), 6);
        due("8 the pad", x.told(0), 0);
        due("8 the day", x.told(2), 2);
        due("8 A", x.told(10), 2);
        due("8 B", x.told(21), 0);
        due("8 a-b", x.told(101), 101);
        due("8 b-c", x.told(112), 8);
        saying(x, "Ab");
        x.say('A');
        due("8 a fault", x.done(), NO);
        due("8 a fault keeps the pad", x.told(0), 3);
        saying(x, "AbAa");
        due("8 what can not be", x.done(), NO);
        due("8 and nothing of it is done", x.told(10), 2);
        due("8 nor of the road", x.told(112), 8);
        saying(x, "pacbc");
        due("8 a patch", x.done(), 1);
        due("8 the patched", x.told(102), 1);
        due("8 the other", x.told(112), NONE);
    }

    private static void behindIs(String text, int a, int b, int want) {
        due("9 behind " + text, saying(triangle(), text).behind(a, b), want);
        due("9 behind, the other way round " + text, saying(triangle(), text).behind(b, a), want);
    }

    private static void promise9() {
        behindIs("", 0, 1, 0);
        behindIs("Ab", 0, 1, 1);
        behindIs("AbAa", 0, 1, 2);
        behindIs("A^Ab", 0, 1, 2);
        behindIs("Ba", 0, 1, 2);
        behindIs("Bc", 1, 2, 9);
        behindIs("B^BcBb", 1, 2, 9);
        behindIs("B^BcB^Bb", 1, 2, 9);
        behindIs("mab", 0, 1, 103);
        behindIs("mab.", 0, 1, 102);
        behindIs("mba..", 0, 1, 101);
        behindIs("mbc...", 1, 2, 0);
        behindIs("mbc....", 1, 2, 0);
        behindIs("pbcac", 1, 2, 3);
        behindIs("pbcac", 0, 2, NONE);
        behindIs("pcbca", 1, 2, 3);
        behindIs("Bcpbcac", 1, 2, 4);
        behindIs("pabac", 0, 1, 0);
        behindIs("", 0, 3, NONE);
        RoadCobblers x = saying(triangle(), "Ad");
        due("9 unknown ahead", x.behind(0, 0), UNKNOWN);
        due("9 no", x.behind(0, 1), NO);
        saying(x, "A");
        due("9 no, a fault", x.behind(0, 1), NO);
        due("9 unknown", x.behind(9, 0), UNKNOWN);
        due("9 unknown below", x.behind(0, -1), UNKNOWN);
        for (int far : FAR) {
            due("9 far", x.behind(far, 0), UNKNOWN);
            due("9 far", x.behind(0, far), UNKNOWN);
        }
        due("9 it is not done", saying(triangle(), "Ab").told(101), 0);
    }

    private static void promise10() {
        RoadCobblers x = saying(triangle(), "AbA^BaB^Bc");
        due("10 A", x.goes(0, 0), 1);
        due("10 A iron", x.goes(0, 1), 1);
        due("10 B", x.goes(1, 0), 2);
        due("10 B iron", x.goes(1, 1), 0);
        due("10 now A", x.told(10), 0);
        due("10 now B iron", x.told(21), 1);
        due("10 not there", x.goes(2, 0), UNKNOWN);
        due("10 no such", x.goes(6, 0), UNKNOWN);
        due("10 no such below", x.goes(-1, 0), UNKNOWN);
        due("10 unknown first", x.goes(2, 2), UNKNOWN);
        due("10 outside", x.goes(0, 2), OUTSIDE);
        due("10 outside below", x.goes(0, -1), OUTSIDE);
        for (int far : FAR) {
            due("10 far", x.goes(far, 0), UNKNOWN);
            due("10 far what", x.goes(0, far), OUTSIDE);
        }
        saying(x, "Ad");
        due("10 no", x.goes(0, 0), NO);
        due("10 outside ahead of no", x.goes(0, 2), OUTSIDE);
        due("10 unknown ahead of no", x.goes(2, 0), UNKNOWN);
        saying(x, "A");
        due("10 no, a fault", x.goes(0, 1), NO);
    }

    private static void thenIs(RoadCobblers x, String text, int... want) {
        saying(x, text);
        for (int what = 0; what < want.length; what++) due("11 then(" + what + ") of " + text, x.then(what), want[what]);
    }

    private static void promise11() {
        thenIs(triangle(), "", 3, 10, 0, 0, NONE, NONE);
        thenIs(triangle(), "Bc", 3, 12, 0, 0, 0, 12);
        thenIs(triangle(), ".AbB^Bc.Bb", 3, 13, 0, 2, 5, 12);
        thenIs(triangle(), "mabmac", 3, 7, 1, 0, NONE, NONE);
        thenIs(triangle(), "mabmacmbc", 3, 0, 3, 0, NONE, NONE);
        thenIs(triangle(), "mabmacmbc...", 3, 0, 0, 3, NONE, NONE);
        thenIs(triangle(), "pabbcpabac", 1, 0, 0, 0, NONE, NONE);
        RoadCobblers x = roads("ab8", "hi8", "bc8");
        x.walker(5, 8, true);
        x.walker(2, 0, false);
        thenIs(x, "CbFh", 3, 26, 32, 0, 0, 1);
        thenIs(x, "FhCb", 3, 26, 32, 0, 0, 78);
        thenIs(x, "CbCcFh", 3, 27, 36, 0, 0, 1);
        thenIs(x, "mabFh", 3, 17, 36, 0, 1, 78);
        // worn through twice, with a patch between: the first is told
        thenIs(roadsForTwice(), "AbpabcdAaAbAaAbAa", 1, 9, 1, 0, 0, 1);
        // worn through at first already: no act did it
        RoadCobblers worn = roads("ab9", "bc0");
        worn.walker(0, 1, false);
        thenIs(worn, "Ac", 2, 10, 0, 0, NONE, NONE);
        due("11 outside", x.then(6), OUTSIDE);
        due("11 outside below", x.then(-1), OUTSIDE);
        for (int far : FAR) due("11 far", x.then(far), OUTSIDE);
        saying(x, "AA");
        for (int what = 0; what < 6; what++) due("11 a fault", x.then(what), NO);
        due("11 outside ahead of no", x.then(6), OUTSIDE);
        saying(x, "Ai");
        for (int what = 0; what < 6; what++) due("11 what can not be", x.then(what), NO);
    }

    private static RoadCobblers roadsForTwice() {
        RoadCobblers x = roads("ab8", "cd1");
        x.walker(0, 0, false);
        return x;
    }

    private static void wayIs(RoadCobblers x, int a, int b, int roads, int wear) {
        due("12 way " + a + b, x.way(a, b, 0), roads);
        due("12 wear " + a + b, x.way(a, b, 1), wear);
        due("12 way back " + b + a, x.way(b, a, 0), roads);
        due("12 wear back " + b + a, x.way(b, a, 1), wear);
    }

    private static void promise12() {
        wayIs(triangle(), 1, 2, 1, 3);
        wayIs(triangle(), 0, 0, 0, 0);
        wayIs(triangle(), 8, 8, 0, 0);
        wayIs(triangle(), 0, 8, NONE, NONE);
        wayIs(roads("ab8", "bc8", "cd8", "de8", "ef8", "fg8", "gh8", "hi8"), 0, 8, 8, 64);
        wayIs(roads("ih8", "hg8", "gf8", "fe8", "ed8", "dc8", "cb8", "ba8", "ai0"), 8, 4, 4, 32);
        wayIs(roads("ab9", "ac1", "cb1"), 0, 1, 2, 2);
        wayIs(roads("ab9"), 0, 1, NONE, NONE);
        RoadCobblers x = triangle();
        saying(x, "mab");
        wayIs(x, 0, 1, 1, 0);
        x.done();
        wayIs(x, 0, 1, 2, 10);
        due("12 unknown a", x.way(9, 0, 0), UNKNOWN);
        due("12 unknown b", x.way(0, -1, 0), UNKNOWN);
        due("12 unknown first", x.way(9, 9, 2), UNKNOWN);
        due("12 outside", x.way(0, 0, 2), OUTSIDE);
        due("12 outside below", x.way(0, 1, -1), OUTSIDE);
        for (int far : FAR) {
            due("12 far a", x.way(far, 0, 0), UNKNOWN);
            due("12 far b", x.way(0, far, 0), UNKNOWN);
            due("12 far what", x.way(0, 1, far), OUTSIDE);
        }
    }

    private static void partsAre(RoadCobblers x, int count, int first) {
        due("13 parts", x.parts(0), count);
        due("13 first", x.parts(1), first);
    }

    private static void promise13() {
        partsAre(new RoadCobblers(), 0, NONE);
        partsAre(triangle(), 0, NONE);
        partsAre(roads("ab", "bc", "cd", "de", "ef", "fg", "gh", "hi"), 8, 1);
        partsAre(roads("ia", "ib", "hi", "gi"), 4, 8);
        partsAre(roads("ab", "bc", "ca", "cd", "de", "ef", "fd"), 1, 23);
        partsAre(roads("hi", "gh", "gi", "fg"), 1, 56);
        partsAre(roads("ab", "bc", "ca9", "cd"), 3, 1);
        partsAre(roads("ab", "bc9", "cd"), 2, 1);
        partsAre(complete(9), 0, NONE);
        RoadCobblers x = triangle();
        saying(x, "mac").done();
        partsAre(x, 2, 1);
        due("13 outside", x.parts(2), OUTSIDE);
        due("13 outside below", x.parts(-1), OUTSIDE);
        for (int far : FAR) due("13 far", x.parts(far), OUTSIDE);
    }

    private static void promise14() {
        due("14 none", new RoadCobblers().strokes(), 0);
        due("14 worn", roads("ab9").strokes(), 0);
        due("14 one", roads("ab").strokes(), 1);
        due("14 round", triangle().strokes(), 1);
        due("14 two apart", roads("ab", "cd").strokes(), 2);
        due("14 four apart", roads("ab", "cd", "ef", "gh").strokes(), 4);
        due("14 two rounds", roads("ab", "bc", "ca", "de", "ef", "fd").strokes(), 2);
        due("14 a star", roads("ab", "ac", "ad").strokes(), 2);
        due("14 a star of eight", roads("ia", "ib", "ic", "id", "ie", "if", "ig", "ih").strokes(), 4);
        due("14 all of 4", complete(4).strokes(), 2);
        due("14 all of 5", complete(5).strokes(), 1);
        due("14 all of 8", complete(8).strokes(), 4);
        due("14 all of 9", complete(9).strokes(), 1);
        due("14 worn roads are no matter", roads("ab", "ac", "ad9").strokes(), 1);
        RoadCobblers x = triangle();
        saying(x, "mab").done();
        due("14 away", x.strokes(), 1);
        saying(x, "mac").done();
        saying(x, "mbc").done();
        due("14 all away", x.strokes(), 0);
    }

    private static void promise15() {
        RoadCobblers x = new RoadCobblers();
        due("15 one", x.mended(9, 1, 1), 9);
        due("15 hands idle", x.mended(91, 2, 4), 9);
        due("15 one hand", x.mended(99999999, 8, 1), 72);
        due("15 two hands", x.mended(99999999, 8, 2), 36);
        due("15 three hands", x.mended(99999999, 8, 3), 27);
        due("15 four hands", x.mended(99999999, 8, 4), 18);
        due("15 not the longest first", x.mended(33222, 5, 2), 6);
        due("15 three by three", x.mended(5544333, 7, 3), 9);
        due("15 behind a greater one", x.mended(33, 2, 2), 3);
        due("15 as if new", x.mended(1, 1, 2), 1);
        due("15 n 0", x.mended(1, 0, 1), OUTSIDE);
        due("15 n 9", x.mended(111111111, 9, 1), OUTSIDE);
        due("15 h 0", x.mended(1, 1, 0), OUTSIDE);
        due("15 h 5", x.mended(1, 1, 5), OUTSIDE);
        due("15 a nought", x.mended(101, 3, 1), OUTSIDE);
        due("15 a nought behind", x.mended(110, 3, 1), OUTSIDE);
        due("15 too few", x.mended(11, 3, 1), OUTSIDE);
        due("15 too many", x.mended(1111, 3, 1), OUTSIDE);
        due("15 nothing", x.mended(0, 1, 1), OUTSIDE);
        due("15 below", x.mended(-111, 3, 1), OUTSIDE);
        for (int far : FAR) {
            due("15 far row", x.mended(far, 3, 1), OUTSIDE);
            due("15 far n", x.mended(11, far, 1), OUTSIDE);
            due("15 far h", x.mended(11, 2, far), OUTSIDE);
        }
    }

    private static void paysIs(int row, int n, int i, long upper, long lower) {
        RoadCobblers x = new RoadCobblers();
        due("16 pays " + row + " " + n + " " + i, x.pays(row, n, i, 0), upper);
        due("16 pays by " + row + " " + n + " " + i, x.pays(row, n, i, 1), lower);
    }

    private static void promise16() {
        paysIs(123, 3, 0, 1, 3);
        paysIs(123, 3, 1, 5, 6);
        paysIs(123, 3, 2, 11, 6);
        paysIs(9, 2, 0, 0, 1);
        paysIs(9, 2, 1, 9, 1);
        paysIs(0, 1, 0, 0, 1);
        paysIs(987654321, 9, 0, 7129, 2520);
        paysIs(999999999, 9, 8, 1, 1);
        paysIs(222, 3, 1, 2, 3);
        paysIs(20, 3, 1, 2, 1);
        RoadCobblers x = new RoadCobblers();
        long refused = LOST + OUTSIDE;
        due("16 n 0", x.pays(1, 0, 0, 0), refused);
        due("16 n 10", x.pays(1, 10, 0, 0), refused);
        due("16 more digits", x.pays(100, 2, 0, 0), refused);
        due("16 more digits than nine", x.pays(1000000000, 9, 0, 0), refused);
        due("16 below", x.pays(-1, 2, 0, 0), refused);
        due("16 i", x.pays(11, 2, 2, 0), refused);
        due("16 i below", x.pays(11, 2, -1, 0), refused);
        due("16 part", x.pays(11, 2, 1, 2), refused);
        due("16 part below", x.pays(11, 2, 1, -1), refused);
        for (int far : FAR) {
            due("16 far row", x.pays(far, 2, 1, 0), refused);
            due("16 far n", x.pays(11, far, 1, 0), refused);
            due("16 far i", x.pays(11, 2, far, 0), refused);
            due("16 far part", x.pays(11, 2, 1, far), refused);
        }
    }

    private static void promise17and18() {
        RoadCobblers x = new RoadCobblers();
        due("17 first", x.seen(false, 0, 0), 1);
        due("17 the same once more", x.seen(false, 0, 0), 2);
        due("17 greatest", x.seen(true, 20, 9999), 3);
        due("17 days", x.seen(true, 21, 0), OUTSIDE);
        due("17 days below", x.seen(true, -1, 0), OUTSIDE);
        due("17 v", x.seen(true, 0, 10000), OUTSIDE);
        due("17 v below", x.seen(true, 0, -1), OUTSIDE);
        for (int far : FAR) {
            due("17 far days", x.seen(false, far, 0), OUTSIDE);
            due("17 far v", x.seen(false, 0, far), OUTSIDE);
        }
        for (int i = 4; i <= 8; i++) due("17 more", x.seen(true, 1, 5), i);
        due("17 full", x.seen(true, 1, 5), FULL);
        due("17 outside ahead of full", x.seen(true, 21, 5), OUTSIDE);
        due("17 told", x.told(3), 8);
        due("18 forget", x.forget(), 8);
        due("18 forget again", x.forget(), 0);
        due("18 all fits again", x.who(-1), 1000);
        due("18 room again", x.seen(true, 1, 5), 1);
    }

    private static void promise19() {
        RoadCobblers x = new RoadCobblers();
        due("19 all", x.who(-1), 1000);
        due("19 the last", x.who(999), 999);
        due("19 none behind", x.who(1000), NONE);
        due("19 none below", x.who(-2), NONE);
        for (int far : FAR) due("19 far", x.who(far), NONE);
        x.seen(false, 0, 3);
        due("19 by wear", x.who(-1), 100);
        due("19 first", x.who(0), 300);
        x.seen(true, 1, 5);
        due("19 by prints", x.who(-1), 6);
        for (int i = 0; i < 6; i++) due("19 rising", x.who(i), 305 + 9 * i);
        due("19 none behind those", x.who(6), NONE);
        x.seen(false, 1, 11);
        due("19 one", x.who(-1), 1);
        due("19 that one", x.who(0), 323);
        x.seen(true, 0, 1);
        due("19 nothing", x.who(-1), 0);
        due("19 nothing first", x.who(0), NONE);
        x.forget();
        x.seen(false, 20, 549);
        due("19 no bound", x.who(0), 999);
        due("19 no bound, one", x.who(-1), 1);
        x.forget();
        x.seen(true, 20, 360);
        due("19 prints of all", x.who(-1), 10);
        due("19 prints of all, the first", x.who(0), 99);
    }

    private static void askIs(RoadCobblers x, int what, int left) {
        due("20 ask", x.ask(0), what);
        due("20 left", x.ask(1), left);
    }

    private static void promise20() {
        RoadCobblers x = new RoadCobblers();
        askIs(x, 100, 5);
        x.seen(false, 0, 3);
        askIs(x, 10, 5);
        x.seen(true, 1, 5);
        askIs(x, 10, 1);
        x.seen(false, 1, 11);
        askIs(x, 0, 1);
        x.seen(true, 0, 1);
        askIs(x, NONE, NONE);
        x.forget();
        // x and y are told by prints and by wear: 1 in all, so w is asked for
        x.seen(true, 1, 0);
        askIs(x, 0, 1);
        x.forget();
        // x + 2 y is told, and w: prints tell the rest apart
        x.seen(false, 0, 4);
        x.seen(false, 20, 184);
        askIs(x, 11, 1);
        due("20 outside", x.ask(2), OUTSIDE);
        due("20 outside below", x.ask(-1), OUTSIDE);
        for (int far : FAR) due("20 far", x.ask(far), OUTSIDE);
        x.seen(true, 0, 1);
        due("20 outside, also when nothing fits", x.ask(2), OUTSIDE);
    }

    private static void tacksIs(int n, int set, int take) {
        RoadCobblers x = new RoadCobblers();
        due("21 tacks " + n + " " + set, x.tacks(n, set, 0), take == NONE ? 0 : 1);
        due("21 first " + n + " " + set, x.tacks(n, set, 1), take);
    }

    private static void promise21() {
        tacksIs(0, 1, NONE);
        tacksIs(0, 511, NONE);
        tacksIs(1, 1, 1);
        tacksIs(2, 1, NONE);
        tacksIs(99, 1, 1);
        tacksIs(98, 1, NONE);
        tacksIs(1, 2, NONE);
        tacksIs(8, 256, NONE);
        tacksIs(9, 256, 9);
        tacksIs(18, 256, NONE);
        tacksIs(99, 511, 9);
        tacksIs(90, 511, NONE);
        tacksIs(91, 511, 1);
        tacksIs(4, 13, 4);
        tacksIs(7, 13, NONE);
        tacksIs(3, 7, 3);
        tacksIs(4, 7, NONE);
        tacksIs(2, 6, 2);
        RoadCobblers x = new RoadCobblers();
        due("21 n", x.tacks(100, 1, 0), OUTSIDE);
        due("21 n below", x.tacks(-1, 1, 0), OUTSIDE);
        due("21 set", x.tacks(1, 512, 0), OUTSIDE);
        due("21 set 0", x.tacks(1, 0, 0), OUTSIDE);
        due("21 what", x.tacks(1, 1, 2), OUTSIDE);
        due("21 what below", x.tacks(1, 1, -1), OUTSIDE);
        for (int far : FAR) {
            due("21 far n", x.tacks(far, 1, 0), OUTSIDE);
            due("21 far set", x.tacks(1, far, 0), OUTSIDE);
            due("21 far what", x.tacks(1, 1, far), OUTSIDE);
        }
    }

    private static void wetIs(int n, int t, int g, int what, long upper, long lower) {
        RoadCobblers x = new RoadCobblers();
        String call = "22 wet " + n + " " + t + " " + g + " " + what;
        due(call, x.wet(n, t, g, what, 0), upper);
        due(call + " by", x.wet(n, t, g, what, 1), lower);
    }

    private static void promise22() {
        wetIs(1, 5, 2, 0, 1, 2);
        wetIs(2, 5, 3, 0, 3, 4);
        wetIs(2, 5, 5, 0, 0, 1);
        wetIs(0, 3, 0, 0, 1, 1);
        wetIs(0, 3, 1, 0, 0, 1);
        wetIs(0, 3, 40, 1, 0, 1);
        wetIs(16, 0, 16, 0, 1, 1);
        wetIs(16, 0, 17, 0, 0, 1);
        wetIs(16, 10, 32, 0, 1, 1);
        wetIs(16, 10, 33, 0, 0, 1);
        wetIs(16, 1, 32, 0, 1, 10000000000000000L);
        wetIs(16, 9, 17, 0, 9999999999999999L, 10000000000000000L);
        wetIs(3, 1, 0, 1, 33, 10);
        wetIs(16, 10, 0, 1, 32, 1);
        RoadCobblers x = new RoadCobblers();
        long refused = LOST + OUTSIDE;
        int[][] wrong = {{17, 0, 0, 0, 0}, {-1, 0, 0, 0, 0}, {0, 11, 0, 0, 0}, {0, -1, 0, 0, 0}, {0, 0, 41, 0, 0},
            {0, 0, -1, 0, 0}, {0, 0, 41, 1, 0}, {0, 0, -1, 1, 0}, {0, 0, 0, 2, 0}, {0, 0, 0, -1, 0}, {0, 0, 0, 0, 2}, {0, 0, 0, 1, -1}};
        for (int[] w : wrong) due("22 refused", x.wet(w[0], w[1], w[2], w[3], w[4]), refused);
        for (int far : FAR) {
            due("22 far n", x.wet(far, 1, 1, 0, 0), refused);
            due("22 far t", x.wet(1, far, 1, 0, 0), refused);
            due("22 far g", x.wet(1, 1, far, 1, 0), refused);
            due("22 far what", x.wet(1, 1, 1, far, 0), refused);
            due("22 far part", x.wet(1, 1, 1, 0, far), refused);
        }
    }

    private static void promise23() {
        RoadCobblers x = triangle();
        due("23 wear", x.year(77, 99, 0), 14);
        due("23 shut in", x.year(77, 99, 1), 0);
        due("23 open", x.year(77, 99, 2), 2);
        due("23 nothing is done", x.told(101), 0);
        due("23 nor is a day", x.told(2), 0);
        RoadCobblers pad = saying(triangle(), "mab");
        due("23 the pad is no matter", pad.year(0, 1, 0), 10);
        due("23 the pad stays", pad.told(0), 3);
        due("23 empty", new RoadCobblers().year(9999, 99, 2), 0);
        // on the last day no road comes back
        RoadCobblers last = onDay(99);
        saying(last, "mbc").done();
        Model y = new Model();
        y.road(0, 1, 0);
        y.road(1, 2, 7);
        y.road(0, 2, 3);
        y.walker(0, 0, false);
        y.walker(1, 1, true);
        y.now.day = 99;
        y.now.roads.put("bc", "d3");
        for (int seed = 0; seed < 100; seed++) {
            for (int what = 0; what < 3; what++) due("23 last day", last.year(seed, 99, what), y.year(seed, 99, what));
        }
        int[][] wrong = {{10000, 1, 0}, {-1, 1, 0}, {0, 0, 0}, {0, 100, 0}, {0, 1, 3}, {0, 1, -1}};
        for (int[] w : wrong) due("23 refused", x.year(w[0], w[1], w[2]), OUTSIDE);
        for (int far : FAR) {
            due("23 far seed", x.year(far, 1, 0), OUTSIDE);
            due("23 far m", x.year(1, far, 0), OUTSIDE);
            due("23 far what", x.year(1, 1, far), OUTSIDE);
        }
    }

    private static void promise24and25() {
        RoadCobblers x = triangle();
        due("25 not kept", x.restore(1), STATE);
        x.seen(false, 0, 3);
        saying(x, "mab.").done();
        saying(x, "xy");
        due("24 image", x.image(1), 1);
        due("25 the other one is not kept", x.restore(0), STATE);
        x.wipe();
        saying(x, "A^.").done();
        x.road(5, 6, 1);
        x.walker(4, 4, true);
        x.forget();
        x.seen(true, 1, 1);
        x.seen(true, 1, 1);
        due("24 image 0", x.image(0), 1);
        saying(x, "zzz");
        due("25 restore", x.restore(1), 1);
        due("25 the pad stays", x.told(0), 3);
        due("25 walkers", x.told(1), 3);
        due("25 the day", x.told(2), 1);
        due("25 sights", x.told(3), 1);
        due("25 what was seen", x.who(-1), 100);
        due("25 iron", x.told(20), 0);
        due("25 roads", x.told(156), NONE);
        due("25 away", x.told(101), 102);
        x.road(0, 1, 5);
        due("25 twice", x.restore(1), 1);
        due("25 the image is its own", x.told(101), 102);
        due("25 the other", x.restore(0), 1);
        due("25 the other's day", x.told(2), 2);
        due("25 the other's sights", x.told(3), 2);
        due("25 the other's walkers", x.told(1), 19);
        due("24 anew", x.image(1), 1);
        x.restore(1);
        due("24 kept anew", x.told(2), 2);
        due("24 outside", x.image(2), OUTSIDE);
        due("24 outside below", x.image(-1), OUTSIDE);
        due("25 outside", x.restore(2), OUTSIDE);
        due("25 outside below", x.restore(-1), OUTSIDE);
        for (int far : FAR) {
            due("24 far", x.image(far), OUTSIDE);
            due("25 far", x.restore(far), OUTSIDE);
        }
    }

    private static void promise26() {
        RoadCobblers x = triangle();
        x.walker(5, 8, true);
        x.road(0, 8, 9);
        x.road(0, 3, 8);
        saying(x, "mab.").done();
        saying(x, "!!!!");
        x.seen(true, 1, 1);
        int[][] want = {{0, 4}, {1, 35}, {2, 1}, {3, 1}, {10, 0}, {11, 1}, {15, 8}, {20, 0}, {21, 1}, {25, 1},
            {30, 12}, {31, 4}, {32, 3}, {33, 1}, {34, 0}, {38, 0}, {100, NONE}, {101, 102}, {110, 102}, {108, 9},
            {180, 9}, {103, 8}, {104, NONE}, {188, NONE}, {122, NONE}};
        for (int[] w : want) due("26 told " + w[0], x.told(w[0]), w[1]);
        int[] outside = {-1, 4, 5, 9, 12, 13, 14, 16, 19, 22, 24, 26, 29, 39, 40, 99, 109, 119, 189, 190, 198, 199, 200, 1000};
        for (int what : outside) due("26 told " + what, x.told(what), OUTSIDE);
        for (int far : FAR) due("26 far", x.told(far), OUTSIDE);
    }

    public static void main(String[] args) {
        promise1();
        promise2();
        promise3();
        promise4();
        promise5();
        promise6();
        promise7();
        promise7days();
        promise8();
        promise9();
        promise10();
        promise11();
        promise12();
        promise13();
        promise14();
        promise15();
        promise16();
        promise17and18();
        promise19();
        promise20();
        promise21();
        promise22();
        promise23();
        promise24and25();
        promise26();
        Due.end();
    }
}
