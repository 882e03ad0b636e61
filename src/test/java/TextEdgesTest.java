/** Promises 1 to 6: each sentence on texts that names a boundary, at the boundary and on both sides of it. */
public final class TextEdgesTest {
    private static final int BAD = Run.BAD, NO = Run.NO, FULL = Run.FULL, NONE = Run.NONE, NOTHING = Run.NOTHING;

    private static void newObject() {
        Run.says("at first q0;, N 4");
        Run run = Run.fresh();
        int[] counts = {1, 4, 0, 0, 0, 0, 0, 0};
        for (int what = 0; what < 8; what++) run.due(run.count(what), counts[what]);
        run.due(run.asks(0, 0), 0);
        run.due(run.given(0), NOTHING);
        run.due(run.given(1), BAD);
        run.due(run.worth(3, 3), 9);
        run.due(run.worth(3, NOTHING), 0);
        run.due(run.worth(4, 4), BAD);
        run.due(run.post(0, 0), BAD);
        run.due(run.likeliest(0), BAD);
        run.due(run.back(), NO);
        run.due(run.wipe(), 0);
        Run.says("at first q0;: one LAID by that text answers alike");
        Run told = Run.laid("q0;");
        for (int what = 0; what < 8; what++) if (what != 5) told.due(told.count(what), counts[what]);
        told.due(told.asks(0, 0), 0);
    }

    private static void bytesOfWrite() {
        Run.says("n bytes (1 to 8): just so many come, none else may");
        for (int n = 1; n <= 8; n++) {
            Run run = Run.fresh();
            run.due(run.write(n, 0), n);
            run.due(run.count(5), n);
            run.due(run.write(n, -1), 2 * n);
        }
        for (int n : new int[] {0, 9, -1, -8, 16, 256, 257, 264, -255, Run.LEAST, Run.MOST}) {
            Run.changesNothing(() -> Run.written("t3;q1;"), r -> r.write(n, 0x71303BL), BAD);
        }
        Run.says("n bytes of v, the highest first");
        String text = "t2;b1;q0;q1;q0;q1;q0;q1;";
        for (int n = 1; n <= 8; n++) {
            Run run = Run.fresh();
            int at = 0;
            while (at < text.length()) {
                int now = Math.min(n, text.length() - at);
                long v = 0;
                for (int i = 0; i < now; i++) v = v << 8 | text.charAt(at + i);
                at += now;
                run.due(run.write(now, v), at);
            }
            run.due(run.lay(), 6);
            run.due(run.given(1), 1);
        }
        Run.says("n bytes of v: the bytes of v above them do not count");
        Run above = Run.fresh();
        above.due(above.write(3, 0xFFFFFFFFFF71333BL), 3);
        above.due(above.write(1, Long.MIN_VALUE + 't'), 4);
        above.due(above.write(2, 0x7100000000000000L | 0x353BL), 6);
        above.due(above.lay(), 1);
        above.due(above.count(1), 5);
        above.due(above.asks(0, 0), 3);
    }

    private static void threeHundred() {
        Run.says("A TEXT is bytes (300 at most): up to 300 with each n");
        for (int n = 1; n <= 8; n++) {
            Run run = Run.written(Run.textOf(300 - n));
            run.due(run.write(n, 0), 300);
            run.due(run.write(1, 0), FULL);
            run.due(run.count(5), 300);
        }
        Run.says("FULL: a byte too many with each n; no byte of it comes");
        for (int n = 1; n <= 8; n++) {
            int many = n;
            String text = Run.textOf(301 - many);
            Run.changesNothing(() -> Run.written(text), r -> r.write(many, 0x7474747474747474L), FULL);
            Run run = Run.written(text);
            run.due(run.write(many, 0), FULL);
            if (many > 1) run.due(run.write(many - 1, 0), 300);
        }
        Run.says("FULL with each n, where 300 are there; such a text is LAID");
        for (int n = 1; n <= 8; n++) {
            int many = n;
            Run.changesNothing(() -> Run.written(Run.textOf(300)), r -> r.write(many, 0), FULL);
        }
        Run.dueLay(Run.textOf(300), 1);
        Run.dueFault(Run.times("t4;", 99) + "q0.", 297);
        Run.dueFault(Run.times("t4;", 99) + "q0,", 297);
        Run.dueFault(Run.times("t4;", 99) + "tq;", 297);
    }

    private static void wiping() {
        Run.says("THE TEXT is empty: how long it was: empty, one byte, full");
        Run run = Run.fresh();
        run.due(run.wipe(), 0);
        run.write(1, 0);
        run.due(run.wipe(), 1);
        run.due(run.wipe(), 0);
        run.put(Run.textOf(300));
        run.due(run.wipe(), 300);
        run.due(run.count(5), 0);
        run.due(run.fault(), NONE);
        run.put(Run.textOf(300));
        run.due(run.lay(), 1);
        Run.says("THE TEXT is empty: what is LAID, GIFTS and KEPT stay");
        Run other = Run.laid("t2;q1;q1;p0,0,0,1;").seen(NOTHING);
        other.keep();
        other.due(other.wipe(), 18);
        int[] counts = {2, 2, 0, 1, 1, 0, 1, 0};
        for (int what = 0; what < 8; what++) other.due(other.count(what), counts[what]);
        other.due(other.lay(), NO);
    }

    private static void figures() {
        Run.says("numbers (one to three figures): none, one, two, three, four");
        String[] heads = {"t", "m", "b", "q", "v", "v1,", "v1,1,", "c", "c1,", "p", "p0,", "p0,1,", "p0,1,1,"};
        String[] tails = {";", ";", ";", ";", ",1,1;", ",1;", ";", ",1;", ";", ",1,1,1;", ",1,1;", ",1;", ";"};
        for (int k = 0; k < heads.length; k++) {
            Run.dueFault(heads[k] + tails[k], 0);
            Run.dueFault(heads[k] + "2" + tails[k], NONE);
            Run.dueFault(heads[k] + "02" + tails[k], NONE);
            Run.dueFault(heads[k] + "002" + tails[k], NONE);
            Run.dueFault(heads[k] + "0002" + tails[k], 0);
            Run.dueFault(heads[k] + "00002" + tails[k], 0);
            Run.dueFault(heads[k] + "-2" + tails[k], 0);
            Run.dueFault(heads[k] + "+2" + tails[k], 0);
            Run.dueFault(heads[k] + " 2" + tails[k], 0);
            Run.dueFault(heads[k] + "2 " + tails[k], 0);
        }
        Run.says("numbers: with naughts ahead they are the same numbers");
        Run run = Run.laid("t003;m03;b002;q001;q01;v001,006,007;c000,05;p000,01,002,6;");
        int[] counts = {2, 3, 1, 1, 0, 58, 0, 3};
        for (int what = 0; what < 8; what++) run.due(run.count(what), counts[what]);
        run.due(run.worth(1, NOTHING), 7);
        run.due(run.post(0, 2), 2);
    }

    private static String item(char letter, int numbers) {
        StringBuilder all = new StringBuilder().append(letter);
        for (int i = 0; i < numbers; i++) all.append(i == 0 ? "" : ",").append(i == 0 && letter == 't' ? 2 : 0);
        return all.append(';').toString();
    }

    private static void signs() {
        Run.says("each a letter: just t m b q v c p, of all bytes, with as many numbers as told");
        for (int letter = 0; letter < 256; letter++) {
            for (int numbers = 0; numbers <= 6; numbers++) {
                int want = "tmbq".indexOf(letter) >= 0 ? 1 : letter == 'c' ? 2 : letter == 'v' ? 3 : letter == 'p' ? 4 : -1;
                Run.dueFault("q0;" + item((char) letter, numbers), numbers == want ? NONE : 3);
            }
        }
        Run.says("figures: just 0 to 9, of all bytes");
        for (int sign = 0; sign < 256; sign++) {
            Run.dueFault("q" + (char) sign + ";", sign >= '0' && sign <= '5' ? NONE : 0);
            Run.dueFault("c1," + (char) sign + ";", sign >= '0' && sign <= '9' ? NONE : 0);
        }
        Run.says("parted by , and ; (behind the last one, too): just these, of all bytes");
        for (int sign = 0; sign < 256; sign++) {
            Run.dueFault("c1" + (char) sign + "3;", sign == ',' ? NONE : 0);
            Run.dueFault("v1" + (char) sign + "3,4;", sign == ',' ? NONE : 0);
            Run.dueFault("q0" + (char) sign, sign == ';' ? NONE : 0);
            Run.dueFault("q0;q0" + (char) sign + "q0;", sign == ';' ? NONE : 3);
        }
        String[] torn = {"t", "t2", "c", "c1", "c1,", "c1,2", "v1,1,", "v1,1,1", "p0,0,0,0", "p0,0,0,", ";", ",", "0;",
            "q,0;", "q0,;", "c1,,2;", "c,1,2;", "c1,2,;", "q0:", "qq0;", "q0q0;", ";q0;", " q0;", "\nq0;"};
        for (String text : torn) {
            Run.dueFault(text, 0);
            Run.dueFault("t6;q3;" + text, 6);
        }
        Run.dueFault("q0;;q0;", 3);
        Run.dueFault("q0; ", 3);
        Run.dueFault("q0;\n", 3);
    }

    /** One number of an item, from its least to its most, and what lies beside. */
    private static void dueRange(String head, String tail, int least, int most) {
        for (int x = 0; x <= 20; x++) Run.dueFault(head + x + tail, x >= least && x <= most ? NONE : 0);
        for (int x : new int[] {99, 100, 128, 255, 256, 256 + least, 256 + most, 512 + least, 999}) {
            Run.dueFault(head + x + tail, 0);
            Run.dueFault("q0;b1;" + head + x + tail + "q0;", 6);
        }
    }

    private static void ranges() {
        Run.says("tN there are N THINGS (2 to 6)");
        dueRange("t", ";", 2, 6);
        Run.says("MEMORY is of KIND K: 0 THREE, 1 FIVE, 2 SEVEN, 3 LAST BUT ONE");
        dueRange("m", ";", 0, 3);
        Run.says("bX X (0 to 5) was asked ahead");
        dueRange("b", ";", 0, 5);
        Run.says("qW one more in THE QUEUE wishes for W (0 to 5)");
        dueRange("q", ";", 0, 5);
        Run.says("vW,G,X to who wishes for W it is WORTH X (0 to 9) to have G (0 to 6)");
        dueRange("v", ",0,0;", 0, 5);
        dueRange("v5,", ",0;", 0, 6);
        dueRange("v5,6,", ";", 0, 9);
        Run.says("cX,C X is wished for by C parts (0 to 9)");
        dueRange("c", ",0;", 0, 5);
        dueRange("c5,", ";", 0, 9);
        Run.says("pJ,A,B,G fed by POST J (0 to 5), was asked A, then B (0 to 6 each), gave G (0 to 6) last");
        dueRange("p", ",0,0,0;", 0, 5);
        dueRange("p5,", ",0,0;", 0, 6);
        dueRange("p5,6,", ",0;", 0, 6);
        dueRange("p5,6,6,", ";", 0, 6);
    }

    private static void atMost() {
        Run.says("bX: 6 at most; the seventh is the FAULT");
        Run.dueFault(Run.times("b5;", 6), NONE);
        Run.dueFault(Run.times("b5;", 7), 18);
        Run.dueFault("q0;" + Run.times("b5;t6;", 6) + "q1;b0;q2;b0;", 3 + 36 + 3);
        Run.says("qW: 10 at most; the eleventh is the FAULT");
        Run.dueFault(Run.times("q5;", 10), NONE);
        Run.dueFault(Run.times("q5;", 11), 30);
        Run.dueFault("b0;" + Run.times("q5;m0;", 10) + "b1;q0;", 3 + 60 + 3);
        Run.says("pJ,A,B,G: 6 at most; the seventh is the FAULT");
        Run.dueFault(Run.times("p5,6,6,6;", 6), NONE);
        Run.dueFault(Run.times("p5,6,6,6;", 7), 54);
        Run.dueFault("q0;" + Run.times("p0,0,0,0;c0,1;", 6) + "q1;p0,0,0,0;x", 3 + 84 + 3);
        Run.says("6, 10, 6 at most: each alone, all of them in one text");
        String all = "t6;" + Run.times("b5;", 6) + Run.times("q5;", 10) + Run.times("p5,6,6,6;", 6);
        Run full = Run.written(all);
        full.due(full.fault(), NONE);
        full.due(full.lay(), 10);
        int[] counts = {10, 6, 6, 6, 0, all.length(), 0, 0};
        for (int what = 0; what < 8; what++) full.due(full.count(what), counts[what]);
        Run.says("t, m, v, c may be told as often as there is room");
        for (String item : new String[] {"t3;", "m1;", "v0,0,0;", "c0,0;"}) {
            Run.dueFault(Run.times(item, 300 / item.length()), NONE);
        }
        Run.says("an item that is not so is one too many at once: what is refused counts for nothing");
        Run.dueFault(Run.times("b1;", 6) + "b9;b1;", 18);
        Run.dueFault(Run.times("b1;", 5) + "b9;b1;b1;", 15);
    }

    private static void firstFault() {
        Run.says("FAULT: the place of the first byte of the first ITEM that is not so");
        String[] items = {"t6;", "m2;", "b5;", "q5;", "v5,6,9;", "c5,9;", "p5,6,6,6;", "q0;", "t002;"};
        String[] wrong = {"t7;", "m4;", "b6;", "q6;", "v6,6,9;", "c5,10;", "p5,6,6,7;", "q", "x"};
        for (int from = 0; from <= items.length; from++) {
            StringBuilder text = new StringBuilder();
            for (int k = 0; k < from; k++) text.append(items[k]);
            for (String bad : wrong) {
                Run.dueFault(text + bad, text.length());
                Run.dueFault(text + bad + bad, text.length());
                Run.dueFault(text + bad + "q0;", text.length());
            }
            Run.dueFault(text.toString(), NONE);
        }
        Run.says("FAULT. NONE: an empty text has none");
        Run.dueFault("", NONE);
        Run.says("fault tells of the text alone: that it is not LAID is no FAULT");
        for (String text : new String[] {"b0;", "t2;q5;", "q0;p5,0,0,0;", "t2;q0;v5,5,0;", "t2;q0;c5,1;"}) {
            Run.dueLay(text, NO);
        }
        Run.says("fault changes nothing");
        Run.changesNothing(() -> Run.laid("t2;q1;p0,0,0,1;").seen(NOTHING).instead("t3;q2;q9;"), Run::fault, 6);
        Run.changesNothing(() -> Run.laid("t2;q1;p0,0,0,1;").seen(NOTHING).instead("t3;q2;q2;"), Run::fault, NONE);
    }

    private static void withoutAndLast() {
        Run.says("4 without; the last one: THINGS");
        Run run = Run.laid("q3;");
        run.due(run.count(1), 4);
        run = Run.laid("t6;q1;t2;");
        run.due(run.count(1), 2);
        run = Run.laid("t2;q5;t6;");
        run.due(run.count(1), 6);
        Run.says("0 without; the last one: the KIND of the MEMORY");
        run = Run.laid("q3;");
        run.due(run.count(7), 0);
        run = Run.laid("m3;q3;m1;");
        run.due(run.count(7), 1);
        run = Run.laid("m1;q3;m0;");
        run.due(run.count(7), 0);
        Run.says("without 9, if G is W, else 0; the last one of both: WORTH");
        run = Run.laid("t6;q0;v2,3,1;v2,2,0;v3,2,5;v2,3,8;v4,6,9;");
        for (int w = 0; w < 6; w++) {
            for (int g = 0; g <= 6; g++) {
                int told = w == 2 && g == 3 ? 8 : w == 2 && g == 2 ? 0 : w == 3 && g == 2 ? 5 : w == 4 && g == 6 ? 9 : -1;
                run.due(run.worth(w, g), told >= 0 ? told : w == g ? 9 : 0);
            }
        }
        Run.says("1 without; the last one of each: parts");
        run = Run.laid("t3;q0;c1,9;c2,5;c1,0;").seen(NOTHING);
        run.due(run.rows(0), 2);
        run.due(run.rows(1), 6);
        Run.says("without: nothing of an earlier text stays when another one is LAID");
        run = Run.laid("t6;m3;b1;q5;q5;v0,0,1;v0,6,1;c0,0;c5,9;p0,1,1,1;");
        run.instead("q1;");
        run.due(run.lay(), 1);
        run.instead("q2;");
        run.due(run.lay(), 1);
        int[] counts = {1, 4, 0, 0, 0, 3, 0, 0};
        for (int what = 0; what < 8; what++) run.due(run.count(what), counts[what]);
        run.due(run.worth(0, 0), 9);
        run.due(run.worth(0, NOTHING), 0);
        run.seen(NOTHING);
        run.due(run.rows(1), 4);
        run.due(run.given(0), NOTHING);
    }

    private static void holding() {
        Run.says("LAID is a TEXT with one in THE QUEUE (NO else)");
        for (String text : new String[] {"", "t2;", "b0;b1;", "t3;m3;v0,0,0;c0,1;p0,0,0,0;"}) Run.dueLay(text, NO);
        for (int n = 1; n <= 10; n++) Run.dueLay(Run.times("q0;", n), n);
        Run.says("no THING told of N or above (but 6): N less 1 and N, for each number that is a THING");
        String[] heads = {"b", "q", "v", "v0,", "c", "p0,", "p0,0,", "p0,0,0,"};
        String[] tails = {";", ";", ",0,0;", ",0;", ",1;", ",0,0;", ",0;", ";"};
        boolean[] mayBeNothing = {false, false, false, true, false, true, true, true};
        for (int n = 2; n <= 6; n++) {
            for (int k = 0; k < heads.length; k++) {
                String lower = heads[k] + (n - 1) + tails[k];
                int queue = k == 1 ? 2 : 1;
                Run.dueLay("q0;t" + n + ";" + lower, queue);
                Run.dueLay(lower + "q0;t" + n + ";", queue);
                if (n < 6) {
                    Run.dueLay("q0;t" + n + ";" + heads[k] + n + tails[k], NO);
                    Run.dueLay(heads[k] + n + tails[k] + "q0;t" + n + ";", NO);
                    Run.dueLay("q0;t" + n + ";" + heads[k] + 5 + tails[k], NO);
                }
                if (mayBeNothing[k]) Run.dueLay("q0;t" + n + ";" + heads[k] + 6 + tails[k], 1);
            }
        }
        Run.says("no THING told of N or above: 4 without; the last N counts");
        Run.dueLay("q3;", 1);
        Run.dueLay("q4;", NO);
        Run.dueLay("t2;q4;t5;", 1);
        Run.dueLay("t5;q4;t4;", NO);
        Run.says("no THING told of N or above: WORTH and parts are no THINGS");
        Run.dueLay("t2;q0;v0,0,9;c0,9;", 1);
        Run.dueLay("t2;m3;q0;", 1);
        Run.says("no THING told of N or above: also one whose number is told anew behind it");
        Run.dueLay("t2;q0;c2,1;c1,1;", NO);
        Run.dueLay("t2;q0;v2,0,1;v1,0,1;", NO);
    }

    private static void feeding() {
        Run.says("no POST fed by one that is not told: the last one told and the next, of 1 to 6");
        for (int many = 1; many <= 6; many++) {
            for (int at = 0; at < many; at++) {
                for (int j = 0; j <= 5; j++) {
                    String text = "q0;" + Run.times("p0,0,0,0;", at) + "p" + j + ",0,0,0;" + Run.times("p0,0,0,0;", many - at - 1);
                    Run.dueLay(text, j < many ? 1 : NO);
                }
            }
        }
        Run.says("0, 1, ..: POSTS and those in THE QUEUE in the order in which they are told");
        Run run = Run.laid("t6;p5,0,1,2;q3;p4,1,2,3;q1;p3,2,3,4;q4;p2,3,4,5;p1,4,5,6;p0,5,6,0;");
        for (int p = 0; p < 6; p++) {
            run.due(run.post(p, 0), 5 - p);
            for (int what = 1; what < 4; what++) run.due(run.post(p, what), (p + what - 1) % 7);
        }
        int[] wishes = {3, 1, 4};
        for (int i = 0; i < 3; i++) run.due(run.asks(i, 0), wishes[i]);
        Run.says("behind those told ahead: the asks ahead in the order in which they are told");
        run = Run.laid("t6;m3;b4;q0;b2;");
        run.due(run.given(0), 2);
    }

    private static void laying() {
        Run.says("LAID: how many are in THE QUEUE; the NET as told, no GIFTS, nothing KEPT");
        Run run = Run.laid("t3;q0;q1;p0,0,1,2;").seen(1, 1);
        run.keep();
        run.round();
        run.keep();
        run.due(run.lay(), 2);
        int[] post = {0, 0, 1, 2};
        for (int what = 0; what < 4; what++) run.due(run.post(0, what), post[what]);
        run.due(run.count(4), 0);
        run.due(run.count(6), 0);
        run.due(run.back(), NO);
        run.due(run.count(5), 18);
        run.due(run.lay(), 2);
        Run.says("NO: a refused lay leaves the LAID, the NET, GIFTS, what is KEPT and THE TEXT");
        String[] refused = {"", "b0;", "q4;", "q6;", "q0;x", "t2;m1;b1;q0;q1;q2;", "t2;q0;q0;p1,0,0,0;", "t2;c2,1;q0;",
            "t2;v0,3,1;q1;", Run.times("q1;", 11)};
        for (String text : refused) {
            Run.changesNothing(() -> {
                Run rich = Run.laid("t3;m3;b1;q0;q1;q2;v0,1,4;v1,6,2;c0,3;c2,0;p1,0,1,2;p0,1,1,1;").seen(1);
                rich.keep();
                rich.round();
                rich.seen(0).keep();
                rich.round();
                return rich.seen(1).instead(text);
            }, Run::lay, NO);
        }
        Run.says("at first q0;: a refused lay leaves a new object as it is");
        for (String text : refused) Run.changesNothing(() -> Run.written(text), Run::lay, NO);
    }

    private static void worths() {
        Run.says("WORTH (g a THING or NOTHING). BAD: for each N the last THING and the next, NOTHING as g alone");
        for (int n = 2; n <= 6; n++) {
            String text = "q0;t" + n + ";v0,6,3;";
            Run run = Run.laid(text);
            run.due(run.worth(n - 1, n - 1), 9);
            run.due(run.worth(0, NOTHING), 3);
            run.due(run.worth(n - 1, NOTHING), 0);
            for (int w : new int[] {-1, n, 6, 7, 256, Run.LEAST, Run.MOST}) {
                run.due(run.worth(w, 0), BAD);
                run.due(run.worth(w, NOTHING), BAD);
            }
            for (int g : new int[] {-1, 7, 13, 262, Run.LEAST, Run.MOST}) run.due(run.worth(0, g), BAD);
            for (int g = n; g < 6; g++) run.due(run.worth(0, g), BAD);
        }
        Run.changesNothing(() -> Run.laid("t3;q0;v0,1,3;"), r -> r.worth(3, 0), BAD);
        Run.changesNothing(() -> Run.laid("t3;q0;v0,1,3;"), r -> r.worth(0, 3), BAD);
    }

    public static void main(String[] args) {
        newObject();
        bytesOfWrite();
        threeHundred();
        wiping();
        figures();
        signs();
        ranges();
        atMost();
        firstFault();
        withoutAndLast();
        holding();
        feeding();
        laying();
        worths();
        Run.end();
    }
}
