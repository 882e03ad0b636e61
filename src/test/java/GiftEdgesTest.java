/** Promises 16 to 20: each sentence on gifts that names a boundary, at the boundary and on both sides of it. */
public final class GiftEdgesTest {
    private static final int BAD = Run.BAD, NO = Run.NO, FULL = Run.FULL, NONE = Run.NONE, NOTHING = Run.NOTHING;

    private static void whichGifts() {
        Run.says("what was given (0 to 6): THINGS such as there are, NOTHING too. BAD");
        for (int n = 2; n <= 6; n++) {
            Run run = Run.laid("q0;t" + n + ";");
            run.due(run.gift(0), 1);
            run.due(run.gift(n - 1), 2);
            run.due(run.gift(NOTHING), 3);
            for (int g = n; g < 6; g++) run.due(run.gift(g), BAD);
            for (int g : new int[] {-1, 7, 256, 262, Run.LEAST, Run.MOST}) run.due(run.gift(g), BAD);
            run.due(run.count(4), 3);
            String text = "q0;t" + n + ";";
            int next = n == 6 ? 7 : n;
            Run.changesNothing(() -> Run.laid(text).seen(NOTHING), r -> r.gift(next), BAD);
            Run.changesNothing(() -> Run.laid(text).seen(NOTHING), r -> r.gift(-1), BAD);
        }
    }

    private static void tenGifts() {
        Run.says("GIFTS (10 at most): how many. FULL");
        Run run = Run.laid("t2;q0;");
        for (int n = 1; n <= 10; n++) run.due(run.gift(n % 2 == 0 ? 1 : NOTHING), n);
        run.due(run.gift(0), FULL);
        run.due(run.gift(NOTHING), FULL);
        run.due(run.count(4), 10);
        Run.changesNothing(() -> Run.laid("t6;q0;").seen(6, 6, 6, 6, 6, 6, 6, 6, 6, 5), r -> r.gift(0), FULL);
        Run.says("No GIFTS: how many were: ten, none, and room for ten again");
        run.due(run.noGifts(), 10);
        run.due(run.noGifts(), 0);
        run.due(run.count(4), 0);
        for (int n = 1; n <= 10; n++) run.due(run.gift(0), n);
        run.due(run.gift(0), FULL);
        Run.says("No GIFTS: none are left behind, the NET and what is KEPT stay");
        Run kept = Run.laid("t3;q0;p0,0,1,2;").seen(NOTHING, NOTHING, 2);
        kept.keep();
        kept.round();
        kept.due(kept.noGifts(), 3);
        kept.due(kept.rows(0), 1);
        kept.due(kept.likeliest(0), BAD);
        kept.due(kept.post(0, 1), 1);
        kept.due(kept.count(6), 1);
        kept.due(kept.back(), 0);
        kept.due(kept.count(4), 3);
        kept.due(kept.likeliest(2), 2);
        Run.says("GIFTS are seen with every MEMORY");
        for (int kind = 0; kind < 4; kind++) {
            Run any = Run.laid("t2;q0;m" + kind + ";");
            for (int n = 1; n <= 10; n++) any.due(any.gift(NOTHING), n);
            any.due(any.gift(NOTHING), FULL);
            any.due(any.noGifts(), 10);
        }
    }

    private static void dueRows(String text, long many, long weights, int... gifts) {
        Run run = Run.laid(text).seen(gifts);
        run.due(run.rows(0), many);
        run.due(run.rows(1), weights);
    }

    private static void rows() {
        Run.says("rows of wishes as long: of no GIFTS there is one, of none in it");
        dueRows("t3;q0;", 1, 1);
        dueRows("t3;m3;q0;c0,0;c1,0;c2,0;", 1, 1);
        Run.says("by which just these are given, from what was asked ahead on");
        dueRows("t3;q0;", 3, 3, NOTHING);
        dueRows("t3;q0;", 0, 0, 1);
        dueRows("t3;b1;q0;", 1, 1, 1);
        dueRows("t3;b1;q0;", 2, 2, NOTHING);
        dueRows("t3;b1;q0;", 0, 0, 0);
        dueRows("t3;b1;b1;q0;", 3, 3, 1);
        dueRows("t3;b1;b1;q0;", 0, 0, NOTHING);
        dueRows("t3;b0;b1;b2;q0;", 0, 0, 0);
        dueRows("t3;b0;b1;b2;q0;", 1, 1, NOTHING);
        dueRows("t3;m3;q0;", 3, 3, NOTHING);
        dueRows("t3;m3;q0;", 0, 0, 0);
        dueRows("t3;m3;b0;q0;", 3, 3, 0);
        dueRows("t3;m3;b0;q0;", 0, 0, NOTHING);
        dueRows("t3;m3;b1;b0;q0;", 0, 0, 0, NOTHING);
        Run.says("from what was asked ahead on: each two asks of six THINGS");
        for (int a = 0; a < 6; a++) {
            for (int b = 0; b < 6; b++) {
                String ahead = "t6;q0;b" + a + ";b" + b + ";";
                dueRows(ahead, a == b ? 6 : 1, a == b ? 6 : 1, b);
                dueRows(ahead, a == b ? 0 : 4, a == b ? 0 : 4, NOTHING);
                dueRows(ahead + "m3;", 6, 6, b);
                Run run = Run.laid(ahead).seen(b);
                run.due(run.likeliest(0), a == b ? 0 : b);
                Run next = Run.laid(ahead + "m3;").seen(b, a);
                next.due(next.likeliest(0), a);
                next.due(next.likeliest(1), 0);
            }
        }
        Run.says("THINGS of 1 part or more: none, one, nine");
        dueRows("t2;q0;c1,0;", 1, 1, NOTHING);
        dueRows("t2;q0;c1,1;", 2, 2, NOTHING);
        dueRows("t2;q0;c1,9;", 2, 10, NOTHING);
        dueRows("t2;q0;c0,0;c1,0;", 0, 0, NOTHING);
        dueRows("t2;m3;q0;c1,0;", 0, 0, NOTHING, 1);
        Run.says("the product of its parts: all together");
        dueRows("t3;q0;c0,2;c1,3;c2,5;", 6, 2 * 3 * 2 + 3 * 5 * 2 + 2 * 5 * 2, NOTHING, NOTHING);
        Run.says("as many as there can be: ten of six THINGS of nine parts");
        long many = 6L * 5;
        for (int i = 0; i < 8; i++) many *= 4;
        long weight = 1;
        for (int i = 0; i < 10; i++) weight *= 9;
        String most = "t6;q0;c0,9;c1,9;c2,9;c3,9;c4,9;c5,9;";
        dueRows(most, many, many * weight, 6, 6, 6, 6, 6, 6, 6, 6, 6, 6);
        dueRows(most + "m3;", 6, 6 * weight, 6, 0, 1, 2, 3, 4, 5, 0, 1, 2);
        Run.says("how many (what = 0), WEIGHTS (1). BAD");
        Run run = Run.laid("q0;").seen(NOTHING);
        for (int what : new int[] {-1, 2, 256, Run.LEAST, Run.MOST}) run.due(run.rows(what), BAD);
        Run.changesNothing(() -> Run.laid("q0;").seen(NOTHING), r -> r.rows(2), BAD);
    }

    private static void dueOdds(Run run, int i, int thing, long above, long below) {
        run.due(run.odds(i, thing, 0), above);
        run.due(run.odds(i, thing, 1), below);
    }

    private static void odds() {
        Run.says("by all, in lowest terms");
        Run run = Run.laid("t4;q0;c0,2;c1,4;c2,6;c3,0;").seen(NOTHING);
        dueOdds(run, 0, 0, 1, 6);
        dueOdds(run, 0, 1, 1, 3);
        dueOdds(run, 0, 2, 1, 2);
        Run.says("in lowest terms: none by 1, all 1 by 1");
        dueOdds(run, 0, 3, 0, 1);
        Run sure = Run.laid("t2;q0;c0,7;c1,9;").seen(NOTHING, 1);
        dueOdds(sure, 0, 1, 1, 1);
        dueOdds(sure, 0, 0, 0, 1);
        dueOdds(sure, 1, 1, 1, 1);
        Run one = Run.laid("t2;q0;").seen(NOTHING, 1);
        one.due(one.rows(1), 1);
        dueOdds(one, 0, 1, 1, 1);
        dueOdds(one, 0, 0, 0, 1);
        Run.says("the i-th: each of ten");
        Run ten = Run.laid("t2;m3;q0;c1,3;").seen(6, 0, 1, 0, 1, 0, 1, 0, 1, 1);
        for (int i = 0; i < 9; i++) dueOdds(ten, i, i % 2 == 0 || i == 9 ? 0 : 1, i == 8 ? 0 : 1, 1);
        dueOdds(ten, 8, 1, 1, 1);
        dueOdds(ten, 9, 0, 1, 4);
        dueOdds(ten, 9, 1, 3, 4);
        ten.due(ten.odds(10, 0, 0), BAD);
        Run.says("none (no ROW)");
        Run none = Run.laid("t2;q0;").seen(0);
        none.due(none.odds(0, 0, 0), NONE);
        none.due(none.odds(0, 1, 1), NONE);
        none.due(none.likeliest(0), NONE);
        Run noParts = Run.laid("t2;q0;c0,0;c1,0;").seen(NOTHING);
        noParts.due(noParts.odds(0, 0, 0), NONE);
        noParts.due(noParts.likeliest(0), NONE);
        Run.changesNothing(() -> Run.laid("t2;q0;").seen(0), r -> r.odds(0, 0, 0), NONE);
        Run.says("odds of a THING: such as there are, not NOTHING. BAD");
        for (int n = 2; n <= 6; n++) {
            Run things = Run.laid("q0;t" + n + ";").seen(NOTHING);
            dueOdds(things, 0, n - 1, 1, n);
            for (int thing : new int[] {-1, n, 6, 7, 256, Run.LEAST, Run.MOST}) dueOdds(things, 0, thing, BAD, BAD);
        }
        Run.says("above (part = 0), below (1). BAD");
        for (int part : new int[] {-1, 2, 256, Run.LEAST, Run.MOST}) run.due(run.odds(0, 0, part), BAD);
        Run.says("BAD (i: of GIFTS): from none to ten");
        Run grows = Run.laid("t6;q0;");
        for (int n = 0; n <= 10; n++) {
            if (n > 0) grows.seen(NOTHING);
            for (int i : new int[] {-1, n, n + 1, 256, Run.LEAST, Run.MOST}) {
                grows.due(grows.odds(i, 0, 0), BAD);
                grows.due(grows.likeliest(i), BAD);
            }
            if (n > 0) {
                dueOdds(grows, n - 1, 0, 1, 6);
                grows.due(grows.likeliest(n - 1), (n - 1) % 3);
            }
        }
    }

    private static void likeliest() {
        Run.says("the ROW of the greatest WEIGHT");
        Run run = Run.laid("t3;q0;c0,2;c1,3;c2,3;").seen(NOTHING, NOTHING);
        run.due(run.likeliest(0), 1);
        run.due(run.likeliest(1), 2);
        Run.says("of several the first");
        Run first = Run.laid("t3;q0;c0,2;c1,2;c2,2;").seen(NOTHING, NOTHING, NOTHING);
        for (int i = 0; i < 3; i++) first.due(first.likeliest(i), i);
        Run.says("the greatest of the whole ROW, not wish by wish");
        Run whole = Run.laid("t3;q0;c0,4;c1,5;c2,6;").seen(NOTHING, 1);
        whole.due(whole.likeliest(0), 1);
        whole.due(whole.likeliest(1), 1);
        Run later = Run.laid("t3;m3;q0;c0,9;c1,1;").seen(NOTHING, 1);
        later.due(later.likeliest(0), 1);
        later.due(later.likeliest(1), 0);
        Run.says("THINGS of 1 part or more: one of no parts is in no ROW");
        Run noParts = Run.laid("t2;q0;c0,0;").seen(NOTHING);
        noParts.due(noParts.likeliest(0), 1);
        Run.says("its i-th wish; none");
        Run.changesNothing(() -> Run.laid("t2;q0;").seen(0), r -> r.likeliest(0), NONE);
        Run.changesNothing(() -> Run.laid("t2;q0;").seen(6), r -> r.likeliest(1), BAD);
    }

    private static void otherMemories() {
        Run.says("(NO: of a MEMORY FIVE, SEVEN.): not of THREE, LAST BUT ONE");
        for (int kind = 0; kind < 4; kind++) {
            boolean no = kind == 1 || kind == 2;
            String text = "t2;q0;m" + kind + ";";
            Run run = Run.laid(text);
            run.due(run.rows(0), no ? NO : 1);
            run.seen(NOTHING);
            run.due(run.rows(0), no ? NO : 2);
            run.due(run.rows(1), no ? NO : 2);
            run.due(run.odds(0, 0, 0), no ? NO : 1);
            run.due(run.odds(0, 0, 1), no ? NO : 2);
            run.due(run.likeliest(0), no ? NO : 0);
            if (no) {
                Run.changesNothing(() -> Run.laid(text).seen(1), r -> r.rows(0), NO);
                Run.changesNothing(() -> Run.laid(text).seen(1), r -> r.odds(0, 0, 0), NO);
                Run.changesNothing(() -> Run.laid(text).seen(1), r -> r.likeliest(0), NO);
            }
        }
    }

    public static void main(String[] args) {
        whichGifts();
        tenGifts();
        rows();
        odds();
        likeliest();
        otherMemories();
        Run.end();
    }
}
