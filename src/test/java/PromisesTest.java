/** Each promise of the document: ordinary inputs, the edges that it names, and wrong inputs. */
public final class PromisesTest {
    private static final int BAD = -1, NO = -2, FULL = -3, NONE = -4;
    private static int wrong = 0;
    private static int promise = 0;

    private static void due(String call, long got, long want) {
        if (got != want) {
            wrong++;
            System.out.println("promise " + promise + ": " + call + " answered " + got + ", due is " + want);
        }
    }

    private static int put(LastThree x, String text) {
        int length = x.count(5);
        for (int at = 0; at < text.length(); at++) {
            length = x.write(1, text.charAt(at));
        }
        return length;
    }

    private static LastThree laid(String text) {
        LastThree x = new LastThree();
        put(x, text);
        if (x.lay() < 1) {
            wrong++;
            System.out.println("promise " + promise + ": " + text + " was not laid");
        }
        return x;
    }

    private static void dueFault(String text, int want) {
        LastThree x = new LastThree();
        put(x, text);
        due("fault() of " + text, x.fault(), want);
        if (want != NONE) {
            due("lay() of " + text, x.lay(), NO);
        }
    }

    private static void dueLay(String text, int want) {
        LastThree x = new LastThree();
        put(x, text);
        due("lay() of " + text, x.lay(), want);
    }

    private static void seen(LastThree x, int... gifts) {
        for (int g : gifts) {
            x.gift(g);
        }
    }

    private static String repeat(String item, int times) {
        StringBuilder all = new StringBuilder();
        for (int i = 0; i < times; i++) {
            all.append(item);
        }
        return all.toString();
    }

    private static void newObject() {
        promise = 1;
        LastThree x = new LastThree();
        int[] counts = {1, 4, 0, 0, 0, 0, 0, 0};
        for (int what = 0; what < 8; what++) {
            due("count(" + what + ")", x.count(what), counts[what]);
        }
        due("given(0)", x.given(0), 6);
        due("worth(3, 3)", x.worth(3, 3), 9);
        due("worth(3, 2)", x.worth(3, 2), 0);
        due("fault()", x.fault(), NONE);
        due("lay() of the empty text", x.lay(), NO);
        due("count(0) still", x.count(0), 1);
        seen(x, 6);
        due("rows(1): parts are 1", x.rows(1), 4);
    }

    private static void writing() {
        promise = 2;
        LastThree x = new LastThree();
        due("write(0, 0)", x.write(0, 0), BAD);
        due("write(9, 0)", x.write(9, 0), BAD);
        due("write(-1, 0)", x.write(-1, 0), BAD);
        due("count(5)", x.count(5), 0);
        due("write(3, q0;)", x.write(3, 0x71303BL), 3);
        due("write(3, ..q1;), the low bytes", x.write(3, 0x5A5A71313BL), 6);
        due("write(8, t5;t4;t3)", x.write(8, 0x74353B74343B7433L), 14);
        due("write(1, ;)", x.write(1, -256 + ';'), 15);
        due("fault()", x.fault(), NONE);
        due("lay()", x.lay(), 2);
        due("count(1)", x.count(1), 3);
        x.wipe();
        for (int n = 1; n <= 37; n++) {
            due("write(8, 0)", x.write(8, 0), 8 * n);
        }
        due("write(5, 0) beyond 300", x.write(5, 0), FULL);
        due("write(9, 0) when full", x.write(9, 0), BAD);
        due("write(4, 0) to 300", x.write(4, 0), 300);
        due("write(1, 0) beyond 300", x.write(1, 0), FULL);
        due("count(5)", x.count(5), 300);
    }

    private static void wiping() {
        promise = 3;
        LastThree x = laid("t3;q2;q2;");
        due("count(5), the text stays", x.count(5), 9);
        due("wipe()", x.wipe(), 9);
        due("wipe() again", x.wipe(), 0);
        due("count(5)", x.count(5), 0);
        due("count(0), what was laid stays", x.count(0), 2);
        due("fault()", x.fault(), NONE);
    }

    private static void faults() {
        promise = 4;
        dueFault("", NONE);
        String[] right = {"t2;", "t6;", "t006;", "m0;", "m3;", "b0;", "b5;", "q0;", "q5;", "q005;", "v0,0,0;",
            "v5,6,9;", "c0,0;", "c5,9;", "p0,0,0,0;", "p5,6,6,6;", "q0;b1;q2;t2;t3;m1;m0;"};
        for (String text : right) {
            dueFault(text, NONE);
        }
        String[] bad = {"t1;", "t7;", "t;", "t", "t2", "t02,2;", "t2,;", "t,2;", "t0002;", "t-2;", "t 2;", "m4;", "b6;",
            "q6;", "q0,0;", "v6,0,0;", "v0,7,0;", "v0,0,10;", "v0,0;", "v0,0,0,0;", "c6,0;", "c0,10;", "c0;",
            "p6,0,0,0;", "p0,7,0,0;", "p0,0,7,0;", "p0,0,0,7;", "p0,0,0;", "p0,0,0,0,0;", "Q0;", ";", "0;", "x1;",
            "q0,", "q:0;", "q/;", "\u00f10;"};
        for (String text : bad) {
            dueFault(text, 0);
            dueFault("q0;" + text, 3);
            dueFault("q0;" + text + "q0;q9;", 3);
        }
        dueFault("q0;;", 3);
        dueFault("q0; q0;", 3);
        dueFault(repeat("b1;", 6), NONE);
        dueFault(repeat("b1;", 7), 18);
        dueFault(repeat("q1;", 10), NONE);
        dueFault(repeat("q1;", 11), 30);
        dueFault(repeat("p0,0,0,0;", 6), NONE);
        dueFault(repeat("p0,0,0,0;", 7), 54);
        dueFault(repeat("t3;", 100), NONE);
        dueFault(repeat("t3;", 99) + "t3,", 297);
    }

    private static void laying() {
        promise = 5;
        dueLay("t2;q1;", 1);
        dueLay("t2;q2;", NO);
        dueLay("q4;", NO);
        dueLay("q4;t5;", 1);
        dueLay("t2;q1;t3;q2;", 2);
        dueLay("t3;q2;q1;t2;", NO);
        dueLay("t2;b2;q0;", NO);
        dueLay("t2;q0;v2,0,1;", NO);
        dueLay("t2;q0;v0,2,1;", NO);
        dueLay("t2;q0;v0,6,1;", 1);
        dueLay("t2;q0;c2,1;", NO);
        dueLay("t2;q0;p0,2,0,0;", NO);
        dueLay("t2;q0;p0,0,2,0;", NO);
        dueLay("t2;q0;p0,0,0,2;", NO);
        dueLay("t2;q0;p0,6,6,6;", 1);
        dueLay("q0;p1,0,0,0;", NO);
        dueLay("q0;p1,0,0,0;p0,0,0,0;", 1);
        dueLay("b0;", NO);
        dueLay("q0;x", NO);
        LastThree x = laid("t3;m3;b1;q2;q1;p0,1,2,0;");
        int[] counts = {2, 3, 1, 1, 0, 24, 0, 3};
        for (int what = 0; what < 8; what++) {
            due("count(" + what + ")", x.count(what), counts[what]);
        }
        x.gift(1);
        x.keep();
        x.round();
        x.write(1, 'x');
        due("lay() of a fault", x.lay(), NO);
        due("count(4) still", x.count(4), 1);
        due("count(6) still", x.count(6), 1);
        due("post(0, 1) still", x.post(0, 1), 2);
        x.wipe();
        put(x, "t3;m3;b1;q2;q1;p0,1,2,0;");
        due("lay() again", x.lay(), 2);
        due("count(4)", x.count(4), 0);
        due("count(6)", x.count(6), 0);
        due("post(0, 1)", x.post(0, 1), 1);
        due("back()", x.back(), NO);
        layingAnew();
    }

    private static void layingAnew() {
        LastThree x = laid("t2;m3;b0;b1;q1;q1;c0,3;v0,1,4;p0,1,1,1;");
        x.wipe();
        put(x, "t6;m1;q5;q5;q5;q6;");
        due("fault()", x.fault(), 15);
        due("lay()", x.lay(), NO);
        int[] counts = {2, 2, 2, 1, 0, 18, 0, 3};
        for (int what = 0; what < 8; what++) {
            due("count(" + what + "), as laid ahead", x.count(what), counts[what]);
        }
        due("given(1), as laid ahead", x.given(1), 1);
        due("worth(0, 1), as laid ahead", x.worth(0, 1), 4);
        due("post(0, 3), as laid ahead", x.post(0, 3), 1);
        x.wipe();
        put(x, "t2;m3;b0;b1;q1;q1;c0,3;v0,1,4;v0,0,4;p0,1,1,1;");
        due("lay() once more", x.lay(), 2);
        for (int times = 0; times < 2; times++) {
            x.wipe();
            put(x, "q3;");
            due("lay() with nothing else told", x.lay(), 1);
            int[] plain = {1, 4, 0, 0, 0, 3, 0, 0};
            for (int what = 0; what < 8; what++) {
                due("count(" + what + "), nothing else told", x.count(what), plain[what]);
            }
            due("worth(0, 1), nothing told", x.worth(0, 1), 0);
            due("worth(0, 0), nothing told", x.worth(0, 0), 9);
            x.gift(6);
            due("rows(1), nothing told", x.rows(1), 4);
        }
    }

    private static void worths() {
        promise = 6;
        LastThree x = laid("t3;q0;v0,0,2;v1,6,4;v1,2,7;v1,2,5;v2,0,0;");
        due("worth(0, 0)", x.worth(0, 0), 2);
        due("worth(0, 1)", x.worth(0, 1), 0);
        due("worth(1, 1)", x.worth(1, 1), 9);
        due("worth(1, 6)", x.worth(1, 6), 4);
        due("worth(1, 2), the last one", x.worth(1, 2), 5);
        due("worth(2, 6)", x.worth(2, 6), 0);
        due("worth(2, 3)", x.worth(2, 3), BAD);
        due("worth(3, 2)", x.worth(3, 2), BAD);
        due("worth(6, 2)", x.worth(6, 2), BAD);
        due("worth(-1, 2)", x.worth(-1, 2), BAD);
        due("worth(2, -1)", x.worth(2, -1), BAD);
        due("worth(2, 7)", x.worth(2, 7), BAD);
    }

    private static void dueGiven(String text, int... want) {
        LastThree x = laid(text);
        for (int i = 0; i < want.length; i++) {
            due("given(" + i + ") of " + text, x.given(i), want[i]);
        }
        due("given(-1)", x.given(-1), BAD);
        due("given behind the last", x.given(want.length), BAD);
    }

    private static void givenAndHave() {
        promise = 7;
        dueGiven("q0;q0;q1;q1;q2;q3;q2;", 6, 0, 0, 1, 1, 6, 2);
        dueGiven("b1;b2;q1;q1;q2;", 1, 1, 1);
        dueGiven("q2;b1;b2;q1;", 2, 2);
        dueGiven("m1;q0;q0;q0;q1;q1;q1;q2;q0;q2;q2;", 6, 6, 0, 0, 0, 1, 1, 1, 6, 2);
        dueGiven("m2;b0;b0;q1;q0;q1;q0;q1;q1;q1;q2;", 6, 6, 6, 0, 0, 1, 1, 1);
        dueGiven("m3;q0;q1;q2;q2;", 6, 0, 1, 2);
        dueGiven("m3;b3;q0;", 3);
        promise = 8;
        due("have()", laid("q0;q0;q1;q1;q2;q3;q2;").have(), 3);
        due("have()", laid("m3;b2;q2;q2;q1;").have(), 2);
        due("have()", laid("m2;b1;b1;b1;q1;q1;").have(), 2);
        due("have()", new LastThree().have(), 0);
        promise = 9;
        LastThree x = laid("q0;q0;q1;q1;q2;q3;q2;");
        due("other(0)", x.other(0), 0);
        due("other(1): 6 6 6 6 6 6 6 0", x.other(1), 5);
        due("other(2)", x.other(2), 5);
        due("other(3): 6 0 0 1 1 2 3", x.other(3), 2);
        due("other(4)", x.other(4), BAD);
        due("other(-1)", x.other(-1), BAD);
        due("given(1) still", x.given(1), 0);
    }

    private static void dueOrder(LastThree x, int set, int many, int... want) {
        due("order(" + set + ", -1)", x.order(set, -1), many);
        for (int i = 0; i < want.length; i++) {
            due("order(" + set + ", " + i + ")", x.order(set, i), want[i]);
        }
    }

    private static void orders() {
        promise = 10;
        LastThree x = laid("q0;q1;q0;q1;");
        dueOrder(x, 0, 2, 0, 1, 2, 3);
        dueOrder(x, 1, 2, 1, 2, 3, 0);
        dueOrder(x, 3, 2, 2, 0, 3, 1);
        dueOrder(x, 7, NONE, NONE, NONE, NONE, NONE);
        dueOrder(x, 0, 2, 0, 1, 2, 3);
        due("order(16, 0)", x.order(16, 0), BAD);
        due("order(-1, 0)", x.order(-1, 0), BAD);
        due("order(0, 4)", x.order(0, 4), BAD);
        due("order(0, -2)", x.order(0, -2), BAD);
        due("order(15, 4), BAD ahead of NONE", x.order(15, 4), BAD);
        dueOrder(laid("m3;b2;q0;q0;q2;"), 0, 2, 2, 0, 1);
        dueOrder(laid("m3;b2;q0;q0;q2;"), 1, 2, 2, 1, 0);
        dueOrder(laid("b2;b0;q1;q2;q0;"), 0, 2, 1, 2, 0);
        due("order(0, 0) of FIVE", laid("m1;q0;").order(0, 0), NO);
        due("order(0, 0) of SEVEN", laid("m2;q0;").order(0, 0), NO);
        due("order(2, 0) of SEVEN", laid("m2;q0;").order(2, 0), BAD);
        due("order(0, 1) of SEVEN", laid("m2;q0;").order(0, 1), BAD);
        x.wipe();
        put(x, "q0;q0;");
        x.lay();
        dueOrder(x, 0, 1, 0, 1);
    }

    private static void strangers() {
        promise = 11;
        LastThree x = laid("t3;q1;q2;q1;");
        due("strangers(0, -1)", x.strangers(0, -1), 0);
        due("strangers(0, 0)", x.strangers(0, 0), NONE);
        due("strangers(4, -1)", x.strangers(4, -1), 0);
        due("strangers(7, -1)", x.strangers(7, -1), 2);
        due("strangers(7, 0)", x.strangers(7, 0), 1);
        due("strangers(7, 1)", x.strangers(7, 1), 2);
        due("strangers(7, 2)", x.strangers(7, 2), NONE);
        due("strangers(7, 11)", x.strangers(7, 11), NONE);
        due("strangers(7, 12)", x.strangers(7, 12), BAD);
        due("strangers(7, -2)", x.strangers(7, -2), BAD);
        due("strangers(8, -1)", x.strangers(8, -1), BAD);
        due("strangers(-1, -1)", x.strangers(-1, -1), BAD);
        promise = 12;
        due("ahead(7, 0)", x.ahead(7, 0), 0);
        due("ahead(7, 1)", x.ahead(7, 1), 0);
        due("ahead(7, 2)", x.ahead(7, 2), NONE);
        due("ahead(7, 11)", x.ahead(7, 11), NONE);
        due("ahead(7, -1)", x.ahead(7, -1), BAD);
        due("ahead(7, 12)", x.ahead(7, 12), BAD);
        due("ahead(8, 0)", x.ahead(8, 0), BAD);
        due("ahead(-1, 0)", x.ahead(-1, 0), BAD);
        due("ahead(0, 0)", x.ahead(0, 0), NONE);
        LastThree far = laid("t4;b0;q3;q1;q2;q0;");
        due("strangers(8, -1)", far.strangers(8, -1), 1);
        due("strangers(8, 0)", far.strangers(8, 0), 0);
        due("ahead(8, 0), one of the queue ahead where asks are lower", far.ahead(8, 0), 2);
        LastThree last = laid("m3;t2;q1;q0;q1;");
        due("strangers(5, -1)", last.strangers(5, -1), 2);
        due("strangers(5, 1)", last.strangers(5, 1), 1);
        due("ahead(5, 0)", last.ahead(5, 0), 0);
        due("ahead(5, 1)", last.ahead(5, 1), 2);
        for (String kind : new String[] {"m1;q0;", "m2;q0;"}) {
            LastThree none = laid(kind);
            promise = 11;
            due("strangers(0, 0) of " + kind, none.strangers(0, 0), NO);
            due("strangers(2, 0) of " + kind, none.strangers(2, 0), BAD);
            promise = 12;
            due("ahead(0, 0) of " + kind, none.ahead(0, 0), NO);
            due("ahead(0, 12) of " + kind, none.ahead(0, 12), BAD);
        }
        x.wipe();
        put(x, "q0;q1;q2;");
        x.lay();
        promise = 11;
        due("strangers(7, -1) newly laid", x.strangers(7, -1), 3);
    }

    private static void looking() {
        promise = 13;
        LastThree x = laid("t3;b1;b2;q0;q2;q0;v0,1,3;v0,2,5;");
        int[] asks = {2, 2, 0};
        int[] has = {2, 2, 2};
        for (int i = 0; i < 3; i++) {
            due("asks(" + i + ", 0)", x.asks(i, 0), asks[i]);
            due("asks(" + i + ", 1)", x.asks(i, 1), has[i]);
        }
        due("asks(3, 0)", x.asks(3, 0), BAD);
        due("asks(-1, 0)", x.asks(-1, 0), BAD);
        due("asks(0, 2)", x.asks(0, 2), BAD);
        due("asks(0, -1)", x.asks(0, -1), BAD);
        LastThree lowest = laid("t4;b3;b3;q3;v3,3,0;v3,0,1;");
        due("asks(0, 0), nothing helps", lowest.asks(0, 0), 3);
        LastThree nothing = laid("t4;b3;q3;v3,3,0;v3,6,1;");
        due("asks(0, 0), the lowest", nothing.asks(0, 0), 0);
        due("asks(0, 1)", nothing.asks(0, 1), 6);
        due("asks(0, 0) of FIVE", laid("m1;b1;b1;q0;v0,1,1;").asks(0, 0), 1);
        promise = 14;
        due("otherwise()", x.otherwise(), 1);
        due("otherwise()", nothing.otherwise(), 1);
        due("otherwise()", lowest.otherwise(), 0);
        due("otherwise()", new LastThree().otherwise(), 0);
    }

    private static void swapping() {
        promise = 15;
        LastThree x = laid("t3;m3;b1;q0;q1;q2;q0;");
        int[] then = {0, 1, 1, 2};
        due("given(0)", x.given(0), 1);
        due("given(1)", x.given(1), 0);
        due("swaps(-1)", x.swaps(-1), 1);
        for (int i = 0; i < 4; i++) {
            due("swaps(" + i + ")", x.swaps(i), then[i]);
        }
        due("swaps(4)", x.swaps(4), BAD);
        due("swaps(-2)", x.swaps(-2), BAD);
        due("given(0) still", x.given(0), 1);
        LastThree twice = laid("t3;m3;b1;q0;q1;q0;v0,0,3;v0,1,1;v0,6,5;v1,0,1;v1,1,3;");
        due("swaps(-1)", twice.swaps(-1), 1);
        due("swaps(2)", twice.swaps(2), 1);
        LastThree nothing = laid("t2;q0;q0;q0;v0,6,1;v0,0,0;");
        due("swaps(-1), who wishes alike never swaps", nothing.swaps(-1), 0);
        LastThree rail = laid("t2;q0;q1;q1;v0,1,9;v1,6,9;v1,1,0;");
        due("swaps(-1), NOTHING has a worth too", rail.swaps(-1), 1);
        due("swaps(0)", rail.swaps(0), 1);
        due("swaps(1)", rail.swaps(1), 6);
        due("swaps(2)", rail.swaps(2), 6);
    }

    private static void gifts() {
        promise = 16;
        LastThree x = laid("t3;q0;");
        due("gift(3)", x.gift(3), BAD);
        due("gift(5)", x.gift(5), BAD);
        due("gift(7)", x.gift(7), BAD);
        due("gift(-1)", x.gift(-1), BAD);
        due("gift(6)", x.gift(6), 1);
        for (int n = 2; n <= 10; n++) {
            due("gift(2)", x.gift(2), n);
        }
        due("gift(2)", x.gift(2), FULL);
        due("gift(3), BAD ahead of FULL", x.gift(3), BAD);
        due("count(4)", x.count(4), 10);
        promise = 17;
        due("noGifts()", x.noGifts(), 10);
        due("noGifts()", x.noGifts(), 0);
        due("count(4)", x.count(4), 0);
        due("gift(0)", x.gift(0), 1);
    }

    private static void rows() {
        promise = 18;
        LastThree x = laid("t3;q0;c0,2;c1,3;c2,0;");
        due("rows(0) of no gifts", x.rows(0), 1);
        due("rows(1) of no gifts", x.rows(1), 1);
        seen(x, 6);
        due("rows(0)", x.rows(0), 2);
        due("rows(1)", x.rows(1), 5);
        seen(x, 6);
        due("rows(0)", x.rows(0), 2);
        due("rows(1)", x.rows(1), 12);
        seen(x, 1);
        due("rows(0)", x.rows(0), 2);
        due("rows(1)", x.rows(1), 36);
        due("rows(2)", x.rows(2), BAD);
        due("rows(-1)", x.rows(-1), BAD);
        promise = 19;
        due("odds(0, 0, 0)", x.odds(0, 0, 0), 1);
        due("odds(0, 0, 1)", x.odds(0, 0, 1), 2);
        due("odds(2, 0, 0)", x.odds(2, 0, 0), 0);
        due("odds(2, 0, 1)", x.odds(2, 0, 1), 1);
        due("odds(2, 1, 0)", x.odds(2, 1, 0), 1);
        due("odds(3, 0, 0)", x.odds(3, 0, 0), BAD);
        due("odds(-1, 0, 0)", x.odds(-1, 0, 0), BAD);
        due("odds(0, 3, 0)", x.odds(0, 3, 0), BAD);
        due("odds(0, 6, 0)", x.odds(0, 6, 0), BAD);
        due("odds(0, 0, 2)", x.odds(0, 0, 2), BAD);
        due("odds(0, 0, -1)", x.odds(0, 0, -1), BAD);
        LastThree weighed = laid("t3;q0;c0,2;c1,4;");
        seen(weighed, 6);
        due("odds(0, 1, 0) by the weights", weighed.odds(0, 1, 0), 4);
        due("odds(0, 1, 1) by the weights", weighed.odds(0, 1, 1), 7);
        due("odds(0, 0, 0) in lowest terms", weighed.odds(0, 0, 0), 2);
        promise = 20;
        int[] first = {0, 1, 1};
        for (int i = 0; i < 3; i++) {
            due("likeliest(" + i + "), of like weights the first", x.likeliest(i), first[i]);
        }
        due("likeliest(3)", x.likeliest(3), BAD);
        due("likeliest(-1)", x.likeliest(-1), BAD);
        due("likeliest(0), the heaviest", weighed.likeliest(0), 1);
        seen(x, 6);
        promise = 18;
        due("rows(0), none", x.rows(0), 0);
        due("rows(1), none", x.rows(1), 0);
        promise = 19;
        due("odds(0, 0, 0), none", x.odds(0, 0, 0), NONE);
        due("odds(4, 0, 0), BAD ahead of NONE", x.odds(4, 0, 0), BAD);
        promise = 20;
        due("likeliest(0), none", x.likeliest(0), NONE);
        rowsOfOtherKinds();
    }

    private static void rowsOfOtherKinds() {
        for (String text : new String[] {"m1;q0;", "m2;q0;"}) {
            LastThree x = laid(text);
            promise = 18;
            due("rows(0) of " + text, x.rows(0), NO);
            due("rows(2) of " + text, x.rows(2), BAD);
            promise = 20;
            due("likeliest(0) of " + text, x.likeliest(0), BAD);
            seen(x, 0);
            due("likeliest(0) of " + text, x.likeliest(0), NO);
            promise = 19;
            due("odds(0, 0, 0) of " + text, x.odds(0, 0, 0), NO);
            due("odds(0, 4, 0) of " + text, x.odds(0, 4, 0), BAD);
        }
        promise = 18;
        LastThree x = laid("t6;m3;b2;q0;c0,9;c1,9;c2,9;c3,9;c4,9;c5,9;");
        seen(x, 2, 5);
        due("rows(0)", x.rows(0), 6);
        due("rows(1)", x.rows(1), 9 * 54);
        promise = 20;
        due("likeliest(0)", x.likeliest(0), 5);
        due("likeliest(1)", x.likeliest(1), 0);
    }

    private static void nets() {
        promise = 21;
        LastThree x = laid("t3;m3;q0;p1,0,1,2;p0,6,2,1;");
        int[][] told = {{1, 0, 1, 2}, {0, 6, 2, 1}};
        for (int p = 0; p < 2; p++) {
            for (int what = 0; what < 4; what++) {
                due("post(" + p + ", " + what + ")", x.post(p, what), told[p][what]);
            }
        }
        due("post(2, 0)", x.post(2, 0), BAD);
        due("post(-1, 0)", x.post(-1, 0), BAD);
        due("post(0, 4)", x.post(0, 4), BAD);
        due("post(0, -1)", x.post(0, -1), BAD);
        promise = 22;
        due("round()", x.round(), 2);
        int[][] next = {{1, 1, 1, 1}, {0, 2, 2, 2}};
        for (int p = 0; p < 2; p++) {
            for (int what = 0; what < 4; what++) {
                due("post(" + p + ", " + what + ") behind a round", x.post(p, what), next[p][what]);
            }
        }
        due("round()", x.round(), 2);
        due("post(0, 2)", x.post(0, 2), 2);
        due("post(1, 3)", x.post(1, 3), 2);
        LastThree still = laid("q0;p0,6,0,6;");
        due("round() of NOTHING", still.round(), 0);
        due("post(0, 3)", still.post(0, 3), 6);
        due("round() without posts", new LastThree().round(), NO);
    }

    private static void rings() {
        promise = 23;
        LastThree x = laid("q0;p0,1,1,1;");
        due("ring(0)", x.ring(0), 0);
        due("ring(1)", x.ring(1), 1);
        LastThree y = laid("q0;p0,0,1,2;");
        due("ring(0)", y.ring(0), 3);
        due("ring(1)", y.ring(1), 1);
        due("post(0, 1) still", y.post(0, 1), 0);
        LastThree z = laid("q0;p1,0,0,0;p0,1,1,1;");
        due("ring(0)", z.ring(0), 0);
        due("ring(1)", z.ring(1), 4);
        due("ring(2)", z.ring(2), BAD);
        due("ring(-1)", z.ring(-1), BAD);
        due("ring(0) without posts", new LastThree().ring(0), NO);
        due("ring(2) without posts", new LastThree().ring(2), BAD);
        promise = 24;
        due("before()", x.before(), 5);
        due("before()", laid("t2;q0;p0,0,1,6;").before(), 1);
        due("before()", laid("t2;q0;p0,6,6,6;").before(), 3);
        due("before()", laid("t2;q0;p0,0,0,1;").before(), 0);
        due("before(), the second post feeds nobody", laid("t6;q0;p0,0,0,0;p0,0,0,0;").before(), 343);
        due("before(), fed alike but asked otherwise", laid("q0;p0,0,0,0;p0,1,1,1;").before(), 0);
        due("before(), the most there can be", laid("t6;q0;" + repeat("p0,0,0,0;", 6)).before(), 1977326743L);
        due("before() without posts", new LastThree().before(), NO);
    }

    private static void keeping() {
        promise = 25;
        LastThree x = laid("t3;q0;p0,0,1,0;");
        x.gift(1);
        due("keep()", x.keep(), 1);
        x.gift(2);
        x.round();
        due("keep()", x.keep(), 2);
        x.noGifts();
        x.round();
        due("keep()", x.keep(), FULL);
        due("count(6)", x.count(6), 2);
        promise = 26;
        due("back()", x.back(), 1);
        due("count(4)", x.count(4), 2);
        due("post(0, 1)", x.post(0, 1), 1);
        due("post(0, 2)", x.post(0, 2), 0);
        due("count(6)", x.count(6), 1);
        x.noGifts();
        x.gift(6);
        x.round();
        due("back()", x.back(), 0);
        due("count(4)", x.count(4), 1);
        due("rows(0): the gift is 1 again", x.rows(0), 0);
        due("post(0, 1)", x.post(0, 1), 0);
        due("post(0, 2)", x.post(0, 2), 1);
        due("post(0, 3)", x.post(0, 3), 0);
        due("back()", x.back(), NO);
        due("keep() anew", x.keep(), 1);
    }

    private static void counting() {
        promise = 27;
        LastThree x = laid("t5;m2;b0;b1;b2;q0;q1;q2;q3;p0,0,0,0;p0,0,0,0;");
        x.gift(0);
        x.gift(6);
        x.keep();
        int[] counts = {4, 5, 3, 2, 2, 45, 1, 2};
        for (int what = 0; what < 8; what++) {
            due("count(" + what + ")", x.count(what), counts[what]);
        }
        due("count(8)", x.count(8), BAD);
        due("count(-1)", x.count(-1), BAD);
    }

    public static void main(String[] args) {
        newObject();
        writing();
        wiping();
        faults();
        laying();
        worths();
        givenAndHave();
        orders();
        strangers();
        looking();
        swapping();
        gifts();
        rows();
        nets();
        rings();
        keeping();
        counting();
        System.out.println(wrong == 0 ? "all promises hold" : wrong + " answers are not as due");
        if (wrong != 0) {
            System.exit(1);
        }
    }
}
