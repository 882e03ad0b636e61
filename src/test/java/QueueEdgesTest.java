import java.util.Random;

/** Promises 7 to 15: each sentence on queues that names a boundary, at the boundary and on both sides of it. */
public final class QueueEdgesTest {
    private static final int BAD = Run.BAD, NO = Run.NO, NONE = Run.NONE, NOTHING = Run.NOTHING;

    private static void dueGiven(String text, int... want) {
        Run run = Run.laid(text);
        run.due(run.count(0), want.length);
        for (int i = 0; i < want.length; i++) run.due(run.given(i), want[i]);
    }

    private static void memories() {
        Run.says("THREE what two or more of the last three asks are, else NOTHING");
        dueGiven("b0;b1;q2;", NOTHING);
        dueGiven("b0;b1;q0;", 0);
        dueGiven("b1;b0;q0;", 0);
        dueGiven("b0;b0;q1;", 0);
        dueGiven("b0;b0;q0;", 0);
        Run.says("the last three: the fourth from the end counts no more");
        dueGiven("b0;b1;b2;q0;", NOTHING);
        dueGiven("b0;b0;b1;q2;", NOTHING);
        Run.says("FIVE three or more of the last five");
        dueGiven("m1;b0;b0;b1;b1;q2;", NOTHING);
        dueGiven("m1;b0;b1;b0;b1;q0;", 0);
        dueGiven("m1;b0;b0;b0;b1;q1;", 0);
        dueGiven("m1;b0;b0;b0;b0;q1;", 0);
        dueGiven("m1;b0;b0;b0;b0;q0;", 0);
        Run.says("the last five: the sixth from the end counts no more");
        dueGiven("m1;b0;b1;b2;b0;b1;q0;", NOTHING);
        dueGiven("m1;b0;b0;b0;b1;b2;q3;", NOTHING);
        Run.says("SEVEN four or more of the last seven");
        dueGiven("m2;b0;b0;b0;b1;b1;b1;q2;", NOTHING);
        dueGiven("m2;b0;b1;b0;b1;b0;b1;q0;", 0);
        dueGiven("m2;b0;b0;b0;b0;b1;b1;q1;", 0);
        dueGiven("m2;b0;b0;b0;b0;b0;b0;q0;", 0);
        Run.says("the last seven: the eighth from the end counts no more");
        dueGiven("m2;b0;b1;b0;b1;b0;b1;q2;q0;", NOTHING, NOTHING);
        dueGiven("m2;b0;b0;b0;b0;b1;b1;q1;q2;", 0, NOTHING);
        Run.says("LAST BUT ONE the ask ahead of the last; NOTHING, where none was");
        dueGiven("m3;q3;", NOTHING);
        dueGiven("m3;b3;q0;", 3);
        dueGiven("m3;b3;b1;q0;q2;q2;", 1, 0, 2);
        Run.says("with fewer asks all there are count");
        dueGiven("q0;q0;q1;", NOTHING, 0, 0);
        dueGiven("b0;q0;", 0);
        dueGiven("m1;q0;q0;q0;q1;", NOTHING, NOTHING, 0, 0);
        dueGiven("m1;b0;b0;q0;", 0);
        dueGiven("m2;q0;q0;q0;q0;q1;q1;q1;q1;", NOTHING, NOTHING, NOTHING, 0, 0, 0, 0, 1);
        dueGiven("m2;b0;b0;b0;q0;", 0);
        Run.says("6 and 10 at most: the last of ten behind six asks ahead, by each KIND");
        int[] last = {1, 0, 0, 0};
        int[][] otherwise = {{0, 2, 3, 3}, {2, 0, 1, 3}, {3, 1, 0, 4}, {3, 3, 4, 0}};
        for (int kind = 0; kind < 4; kind++) {
            Run run = Run.laid("t2;" + Run.times("b1;", 6) + Run.times("q0;", 4) + "q1;q0;q0;q1;q0;q1;m" + kind + ";");
            run.due(run.given(9), last[kind]);
            run.due(run.asks(9, 0), 1);
            run.due(run.otherwise(), 0);
            for (int by = 0; by < 4; by++) run.due(run.other(by), otherwise[kind][by]);
        }
        Run.says("the THINGS at the ends, 0 and N less 1, are given like others");
        for (int n = 2; n <= 6; n++) {
            for (int thing : new int[] {0, n - 1}) {
                dueGiven("t" + n + ";b" + thing + ";q" + thing + ";", thing);
                dueGiven("m2;t" + n + ";" + Run.times("b" + thing + ";", 3) + "q" + thing + ";", thing);
            }
        }
    }

    private static void numbersInQueue() {
        Run.says("those in THE QUEUE, such as there are: 0 to one less than there are, of 1 to 10");
        for (int n = 1; n <= 10; n++) {
            Run run = Run.laid("t2;b1;b1;" + Run.times("q1;", n));
            for (int i : new int[] {0, n - 1}) {
                run.due(run.given(i), 1);
                run.due(run.asks(i, 0), 1);
                run.due(run.asks(i, 1), 1);
                run.due(run.swaps(i), 1);
                run.due(run.order(0, i), i);
            }
            for (int i : new int[] {-2, n, n + 1, 256, -256, Run.LEAST, Run.MOST}) {
                run.due(run.given(i), BAD);
                run.due(run.asks(i, 0), BAD);
                run.due(run.swaps(i), BAD);
                run.due(run.order(0, i), BAD);
            }
            run.due(run.given(-1), BAD);
            run.due(run.asks(-1, 0), BAD);
            run.due(run.asks(-1, 1), BAD);
            run.due(run.swaps(-1), 0);
            run.due(run.order(0, -1), n);
        }
        Run.says("his ask (what = 0), what he is given (1). BAD");
        Run run = Run.laid("t2;q1;");
        for (int what : new int[] {-1, 2, 256, Run.LEAST, Run.MOST}) run.due(run.asks(0, what), BAD);
        Run.says("HAVE is how many are given what they wish for: from none to all ten");
        for (int n = 1; n <= 10; n++) {
            Run none = Run.laid("t2;m3;b0;" + "q1;q0;q1;q0;q1;q0;q1;q0;q1;q0;".substring(0, 3 * n));
            none.due(none.have(), 0);
            Run all = Run.laid("t2;m3;b0;" + Run.times("q0;", n));
            all.due(all.have(), n);
        }
        Run first = Run.laid("q0;");
        first.due(first.have(), 0);
    }

    private static void others() {
        Run.says("how many are given otherwise by a KIND: 0 to 3. BAD");
        Run run = Run.laid("q0;q0;q1;");
        int[] want = {0, 2, 2, 0};
        for (int kind = 0; kind < 4; kind++) run.due(run.other(kind), want[kind]);
        for (int kind : new int[] {-1, 4, 256, Run.LEAST, Run.MOST}) run.due(run.other(kind), BAD);
        Run.says("how many are given otherwise: none by its own KIND, ten at most");
        for (int kind = 0; kind < 4; kind++) {
            Run own = Run.laid("b1;b0;b1;q0;q1;q2;q0;q0;m" + kind + ";");
            own.due(own.other(kind), 0);
        }
        Run all = Run.laid("t2;b0;b0;b0;b0;" + Run.times("q0;", 10));
        all.due(all.other(2), 0);
        all.due(all.other(3), 0);
        Run ten = Run.laid("t3;m3;b2;" + "q0;q1;q2;q0;q1;q2;q0;q1;q2;q0;");
        ten.due(ten.other(0), 10);
        ten.due(ten.other(1), 10);
        Run.says("by a KIND: the post's own MEMORY stays");
        Run.changesNothing(() -> Run.laid("t2;b0;b0;q1;q0;q1;"), r -> r.other(3), 2);
    }

    private static void sets() {
        Run.says("a set of those in THE QUEUE (bits): all of them is the last, of 1 to 10");
        for (int n = 1; n <= 10; n++) {
            Run run = Run.laid("t2;b1;b1;" + Run.times("q1;", n));
            int all = (1 << n) - 1;
            run.due(run.order(all, -1), n);
            run.due(run.strangers(all, -1), 0);
            run.due(run.ahead(all, 0), NONE);
            for (int set : new int[] {-1, all + 1, all + 2, 1 << 16, 1 << 30, Run.LEAST, Run.LEAST + 1, Run.MOST}) {
                run.due(run.order(set, -1), BAD);
                run.due(run.strangers(set, -1), BAD);
                run.due(run.ahead(set, 0), BAD);
            }
        }
        Run.says("a set (bits): bit i is the i-th");
        Run run = Run.laid("t4;m3;q0;q1;q2;q3;");
        for (int i = 0; i < 4; i++) {
            run.due(run.strangers(1 << i, 0), i);
            run.due(run.ahead(1 << i, 0), i);
        }
        Run.says("a set: it may be empty");
        Run empty = Run.laid("q0;q1;");
        empty.due(empty.order(0, -1), 0);
        empty.due(empty.strangers(0, -1), 0);
    }

    private static void orders() {
        Run.says("ORDER: all of the set are given what they wish for: none");
        Run alone = Run.laid("q0;");
        alone.due(alone.order(1, -1), NONE);
        alone.due(alone.order(1, 0), NONE);
        alone.due(alone.order(0, -1), 0);
        alone.due(alone.order(0, 0), 0);
        Run fed = Run.laid("b0;q0;");
        fed.due(fed.order(1, -1), 1);
        fed.due(fed.order(1, 0), 0);
        Run.says("in which most are, of several the first by who comes first, then second");
        Run two = Run.laid("b1;q0;q1;");
        two.due(two.order(0, -1), 1);
        two.due(two.order(0, 0), 0);
        two.due(two.order(0, 1), 1);
        Run later = Run.laid("b1;b2;q0;q1;q0;");
        int[] want = {1, 0, 2};
        later.due(later.order(0, -1), 2);
        for (int i = 0; i < 3; i++) later.due(later.order(0, i), want[i]);
        Run.says("in which most are: none at all; the first is then as they stand");
        Run none = Run.laid("t6;q5;q4;q3;");
        none.due(none.order(0, -1), 0);
        for (int i = 0; i < 3; i++) none.due(none.order(0, i), i);
        Run.says("in which most are: the set is ahead of the most");
        Run ahead = Run.laid("m3;b1;q0;q1;q1;");
        ahead.due(ahead.order(0, -1), 2);
        ahead.due(ahead.order(1, -1), NONE);
        Run.says("(NO: of a MEMORY FIVE, SEVEN.): not of THREE, LAST BUT ONE");
        for (int kind = 0; kind < 4; kind++) {
            Run run = Run.laid("t2;b0;b0;b0;b0;q0;q0;m" + kind + ";");
            boolean no = kind == 1 || kind == 2;
            run.due(run.order(3, -1), no ? NO : 2);
            run.due(run.order(3, 1), no ? NO : 1);
            run.due(run.strangers(3, -1), no ? NO : 0);
            run.due(run.strangers(3, 0), no ? NO : NONE);
            run.due(run.ahead(3, 0), no ? NO : NONE);
        }
    }

    private static void strangers() {
        Run.says("also ahead of the first");
        Run first = Run.laid("t6;q5;");
        first.due(first.strangers(1, -1), 1);
        first.due(first.strangers(1, 0), 5);
        first.due(first.ahead(1, 0), 0);
        Run.says("those who wish for any THING: also for one of no parts");
        Run noParts = Run.laid("t3;q2;c2,0;c1,0;c0,0;");
        noParts.due(noParts.strangers(1, 0), 2);
        Run.says("the fewest: one may help two");
        Run shared = Run.laid("t3;q1;q2;q1;");
        shared.due(shared.strangers(5, -1), 1);
        shared.due(shared.strangers(5, 0), 1);
        shared.due(shared.ahead(5, 0), 0);
        Run.says("by the lower ask: a stranger ahead of one of THE QUEUE, if his is lower");
        Run lower = Run.laid("q1;q0;");
        lower.due(lower.strangers(2, 0), 0);
        lower.due(lower.ahead(2, 0), 0);
        Run higher = Run.laid("q0;q1;");
        higher.due(higher.strangers(2, 0), 1);
        higher.due(higher.ahead(2, 0), 1);
        Run second = Run.laid("q0;q2;q3;q1;");
        second.due(second.strangers(8, 0), 1);
        second.due(second.ahead(8, 0), 2);
        Run.says("of like asks one of THE QUEUE ahead of a stranger");
        Run like = Run.laid("t3;b0;q2;q0;q1;q0;");
        like.due(like.strangers(14, -1), 2);
        like.due(like.strangers(14, 0), 1);
        like.due(like.ahead(14, 0), 2);
        like.due(like.strangers(14, 1), 0);
        like.due(like.ahead(14, 1), 2);
        Run.says("how many: from 0 to 10, all that ten in THE QUEUE can need; no i-th: NONE; i 0 to 11");
        for (int n = 1; n <= 10; n++) {
            Run run = Run.laid("t2;m3;" + "q0;q1;q0;q1;q0;q1;q0;q1;q0;q1;".substring(0, 3 * n));
            int all = (1 << n) - 1;
            run.due(run.strangers(all, -1), n);
            for (int i = 0; i < 12; i++) {
                run.due(run.strangers(all, i), i < n ? i % 2 : NONE);
                run.due(run.ahead(all, i), i < n ? i : NONE);
            }
            for (int i : new int[] {-2, 12, 13, 256, Run.LEAST, Run.MOST}) {
                run.due(run.strangers(all, i), BAD);
                run.due(run.ahead(all, i), BAD);
            }
            run.due(run.ahead(all, -1), BAD);
        }
        Run three = Run.laid("t6;q0;q1;q2;q3;q4;q5;q0;q1;q2;q3;");
        three.due(three.strangers(1023, -1), 10);
        three.due(three.strangers(1023, 10), NONE);
        Run.says("THE QUEUE staying in its order; who would come behind the last of THE QUEUE does not");
        Run last = Run.laid("q0;q1;q0;");
        last.due(last.strangers(4, -1), 0);
        last.due(last.strangers(4, 0), NONE);
        last.due(last.ahead(4, 0), NONE);
        Run.says("another set, then the first one again; another text");
        Run again = Run.laid("t2;m3;q0;q1;");
        again.due(again.strangers(3, -1), 2);
        again.due(again.ahead(1, 0), 0);
        again.due(again.strangers(2, 0), 1);
        again.due(again.strangers(3, -1), 2);
        again.due(again.order(0, -1), 0);
        again.instead("t2;m3;q1;q1;");
        again.due(again.lay(), 2);
        again.due(again.strangers(3, -1), 1);
        again.due(again.order(0, -1), 1);
        again.due(again.lay(), 2);
        again.due(again.strangers(0, -1), 0);
        again.due(again.order(0, 1), 1);
        Run.says("another text with fewer in THE QUEUE: those there were count no more");
        Run fewer = Run.laid("t3;q0;q1;q2;q0;q1;q2;");
        fewer.due(fewer.strangers(63, -1), 6);
        fewer.due(fewer.order(0, -1), 3);
        fewer.instead("t3;q1;");
        fewer.due(fewer.lay(), 1);
        fewer.due(fewer.strangers(1, -1), 1);
        fewer.due(fewer.strangers(1, 0), 1);
        fewer.due(fewer.strangers(1, 1), NONE);
        fewer.due(fewer.order(1, -1), NONE);
        fewer.due(fewer.order(0, -1), 0);
        fewer.due(fewer.order(0, 1), BAD);
        fewer.due(fewer.otherwise(), 0);
        fewer.due(fewer.have(), 0);
    }

    private static void looking() {
        Run.says("what he wishes for, if that is so: of like WORTH his wish, also a higher one");
        Run like = Run.laid("t6;b4;b4;q5;v5,5,0;");
        like.due(like.asks(0, 0), 5);
        like.due(like.asks(0, 1), 4);
        like.due(like.otherwise(), 0);
        Run.says("else the lowest THING");
        Run lowest = Run.laid("t6;b5;q5;v5,5,0;v5,6,1;");
        lowest.due(lowest.asks(0, 0), 0);
        lowest.due(lowest.asks(0, 1), NOTHING);
        Run next = Run.laid("t6;b0;b5;q5;v5,5,0;v5,6,1;");
        next.due(next.asks(0, 0), 1);
        Run.says("of most WORTH: the last THING alone is");
        for (int n = 2; n <= 6; n++) {
            Run run = Run.laid("t" + n + ";b" + (n - 1) + ";q0;v0,0,0;v0," + (n - 1) + ",1;");
            run.due(run.asks(0, 0), n - 1);
            run.due(run.asks(0, 1), n - 1);
            run.due(run.otherwise(), 1);
        }
        Run.says("each asks for a THING: not for NOTHING, not for N, though that would be of most WORTH");
        Run two = Run.laid("t2;b0;b1;q0;v0,6,9;v0,0,1;");
        two.due(two.asks(0, 0), 0);
        two.due(two.asks(0, 1), 0);
        Run.says("in THE QUEUE's order: the next ones come behind what was asked, not what was wished");
        Run after = Run.laid("t3;b1;q0;q1;v0,1,1;");
        after.due(after.asks(0, 0), 1);
        after.due(after.asks(1, 1), 1);
        Run row = Run.laid("t3;b1;b1;q0;q0;q0;q0;v0,1,9;v0,0,0;");
        int[] asks = {0, 1, 1, 0};
        for (int i = 0; i < 4; i++) row.due(row.asks(i, 0), asks[i]);
        row.due(row.otherwise(), 2);
        Run.says("how many ask otherwise: none of LAST BUT ONE, where no ask changes what is given");
        Run still = Run.laid("t3;m3;b1;q0;q0;q2;q1;v0,1,9;v0,0,0;v2,6,9;v1,1,0;");
        still.due(still.otherwise(), 0);
        for (int i = 0; i < 4; i++) still.due(still.asks(i, 0), new int[] {0, 0, 2, 1}[i]);
        Run.says("how many ask otherwise: of FIVE and SEVEN, too");
        Run five = Run.laid("m1;b1;b1;q0;v0,1,1;");
        five.due(five.otherwise(), 1);
        Run seven = Run.laid("m2;b1;b1;b1;q0;v0,1,1;");
        seven.due(seven.otherwise(), 1);
        seven.due(seven.asks(0, 1), 1);
        Run.says("How many ask otherwise than they wish: of ten");
        Run ten = Run.laid("t2;b1;b1;v0,1,9;v0,0,0;" + Run.times("q0;", 10));
        ten.due(ten.otherwise(), 6);
        for (int i = 0; i < 10; i++) ten.due(ten.asks(i, 0), i % 3 == 0 ? 0 : 1);
        Run.says("each asked what he wishes for: GIVEN stays beside LOOKING TO HIMSELF");
        Run.changesNothing(() -> Run.laid("t3;b1;q0;q1;v0,1,1;"), Run::otherwise, 1);
        Run.changesNothing(() -> Run.laid("t3;b1;q0;q1;v0,1,1;"), r -> r.asks(0, 0), 1);
    }

    private static void dueSwaps(String text, int often, int... has) {
        Run run = Run.laid(text);
        run.due(run.swaps(-1), often);
        for (int i = 0; i < has.length; i++) run.due(run.swaps(i), has[i]);
    }

    private static void swapping() {
        Run.says("to each of whom what the other has is WORTH more: both more, not like, not one alone");
        dueSwaps("m3;b1;q0;q1;", 1, 0, 1);
        dueSwaps("m3;b1;q0;q1;v1,0,9;", 0, 1, 0);
        dueSwaps("m3;b1;q0;q1;v1,0,8;", 1, 0, 1);
        dueSwaps("m3;b1;q0;q1;v0,1,9;", 0, 1, 0);
        dueSwaps("m3;b1;q0;q1;v0,1,8;", 1, 0, 1);
        dueSwaps("m3;b1;q0;q1;v1,1,0;", 0, 1, 0);
        Run.says("one alone has nobody to swap with");
        dueSwaps("q0;", 0, NOTHING);
        Run.says("what one has may be NOTHING");
        dueSwaps("m3;q0;q1;v1,6,1;", 1, 0, NOTHING);
        Run.says("the first two (by the first, then the second of them)");
        dueSwaps("t6;m3;b5;q0;q1;q2;v0,1,9;v1,5,3;v2,5,3;", 2, 0, 1, 5);
        dueSwaps("t6;m3;b5;q0;q1;q2;v2,5,3;v2,0,3;v0,1,4;v0,0,0;", 1, 1, 0, 5);
        Run.says("again and again, from the first on");
        dueSwaps("t6;m3;b5;q0;q1;q2;q3;v2,0,3;v2,5,5;v3,0,4;", 2, 0, 1, 5, 2);
        Run.says("till none are left: how often; the last two of ten, too");
        dueSwaps("t6;m3;b0;" + Run.times("q0;", 8) + "q2;q0;v2,6,1;", 1, 0, 0, 0, 0, 0, 0, 0, 0, 2, 0);
        Run.says("SWAPS behind THE QUEUE: what was GIVEN stays");
        Run.changesNothing(() -> Run.laid("m3;b1;q0;q1;"), r -> r.swaps(-1), 1);
        Run.changesNothing(() -> Run.laid("m3;b1;q0;q1;"), r -> r.swaps(0), 0);
    }

    /** Ten in the queue, tried through. */
    private static final class Ten {
        final int things;
        final int kind;
        final int[] ahead = new int[2];
        final int[] wishes = new int[10];
        int set;
        int most;
        int[] best;
        private final int[] order = new int[10];

        Ten(Random random) {
            things = 2 + random.nextInt(5);
            kind = random.nextBoolean() ? 0 : 3;
            for (int i = 0; i < 2; i++) ahead[i] = random.nextInt(things);
            for (int i = 0; i < 10; i++) wishes[i] = random.nextInt(things);
        }

        String text() {
            StringBuilder all = new StringBuilder("t" + things + ";m" + kind + ";");
            for (int ask : ahead) all.append("b").append(ask).append(';');
            for (int wish : wishes) all.append("q").append(wish).append(';');
            return all.toString();
        }

        boolean has(int a, int b, int wish) {
            return kind == 3 ? b == wish : a == wish || b == wish;
        }

        void tryOrders(int depth, int come, int a, int b, int many) {
            if (depth == 10 && many > most) {
                most = many;
                best = order.clone();
            }
            for (int i = 0; i < 10; i++) {
                if ((come >> i & 1) == 1) continue;
                boolean has = has(a, b, wishes[i]);
                if (!has && (set >> i & 1) == 1) continue;
                order[depth] = i;
                tryOrders(depth + 1, come | 1 << i, b, wishes[i], has ? many + 1 : many);
            }
        }

        private static boolean isAhead(String row, String other) {
            return row.length() != other.length() ? row.length() < other.length() : row.compareTo(other) < 0;
        }

        /** The best row from each place on, behind each two asks: twice the ask, one more for a stranger. */
        String bestRow() {
            String[][][] rows = new String[11][6][6];
            for (String[] behind : rows[10]) java.util.Arrays.fill(behind, "");
            for (int i = 9; i >= 0; i--) {
                boolean better = true;
                while (better) {
                    better = false;
                    for (int a = 0; a < 6; a++) for (int b = 0; b < 6; b++) better |= improve(rows, i, a, b);
                }
            }
            return rows[0][ahead[0]][ahead[1]];
        }

        private boolean improve(String[][][] rows, int i, int a, int b) {
            boolean better = false;
            for (int ask = 0; ask < things; ask++) {
                for (int stranger = 0; stranger < 2; stranger++) {
                    if (stranger == 0 && (ask != wishes[i] || (set >> i & 1) == 1 && !has(a, b, ask))) continue;
                    String rest = rows[i + 1 - stranger][b][ask];
                    if (rest == null) continue;
                    String row = (char) ('0' + 2 * ask + stranger) + rest;
                    if (rows[i][a][b] == null || isAhead(row, rows[i][a][b])) {
                        rows[i][a][b] = row;
                        better = true;
                    }
                }
            }
            return better;
        }
    }

    private static void ten() {
        Run.says("10 at most: ORDER and STRANGERS of ten, tried through");
        Random random = new Random(7);
        for (int run = 0; run < 24; run++) {
            Ten ten = new Ten(random);
            Run program = Run.laid(ten.text());
            for (int sets = 0; sets < 3; sets++) {
                ten.set = sets == 0 ? 0 : random.nextInt(1024) & (run % 2 == 0 ? random.nextInt(1024) : -1);
                dueTen(ten, program);
            }
            ten.set = 1023;
            dueTen(ten, program);
        }
    }

    private static void dueTen(Ten ten, Run program) {
        ten.most = NONE;
        ten.best = null;
        ten.tryOrders(0, 0, ten.ahead[0], ten.ahead[1], 0);
        program.due(program.order(ten.set, -1), ten.most);
        for (int i = 0; i < 10; i++) program.due(program.order(ten.set, i), ten.best == null ? NONE : ten.best[i]);
        String row = ten.bestRow();
        program.due(program.strangers(ten.set, -1), row.length() - 10);
        int strangers = 0;
        for (int at = 0; at < row.length(); at++) {
            if ((row.charAt(at) - '0') % 2 == 0) continue;
            program.due(program.strangers(ten.set, strangers), (row.charAt(at) - '0') / 2);
            program.due(program.ahead(ten.set, strangers), at - strangers);
            strangers++;
        }
    }

    public static void main(String[] args) {
        memories();
        numbersInQueue();
        others();
        sets();
        orders();
        strangers();
        looking();
        swapping();
        ten();
        Run.end();
    }
}
