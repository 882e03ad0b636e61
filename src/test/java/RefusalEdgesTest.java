import java.util.List;
import java.util.function.IntPredicate;
import java.util.function.Supplier;
import java.util.function.ToLongFunction;

/** What BAD, NO, NONE and FULL are, that of several the first counts, and that nothing changes then. */
public final class RefusalEdgesTest {
    private static final int BAD = Run.BAD, NO = Run.NO, FULL = Run.FULL, NONE = Run.NONE, NOTHING = Run.NOTHING;
    private static final String BODY = "t5;b1;b4;q0;q3;q4;q1;q3;q0;v0,1,4;v3,6,2;v4,4,0;c0,3;c2,0;p1,0,1,2;p2,4,4,6;p0,3,3,3;";

    /** One that has everything: posts, gifts, two kept, and another text than the laid one. */
    private static Run rich(int kind) {
        Run run = Run.laid("m" + kind + ";" + BODY).seen(4, 4);
        run.keep();
        run.round();
        run.noGifts();
        run.seen(4, 4, 0);
        run.keep();
        run.round();
        run.noGifts();
        return run.seen(4).instead("t6;m3;b2;q5;q2;q5;v5,2,7;c5,9;p1,5,5,0;p0,6,0,5;");
    }

    private static Run three() {
        return rich(0);
    }

    private static Run five() {
        return rich(1);
    }

    private static Run seven() {
        return rich(2);
    }

    private static Run lastButOne() {
        return rich(3);
    }

    private static Run full() {
        Run run = rich(3);
        run.noGifts();
        run.seen(4, 0, 1, 3, 3, 0, 0, 4, 4, 1).instead(Run.textOf(300));
        return run;
    }

    private static Run bare() {
        return Run.laid("t2;q1;q1;").seen(NOTHING, 1);
    }

    private interface OneNumber {
        long call(Run run, int x);
    }

    /** A number is BAD just if it is none that is told: a wide sweep of it, and the ends of int. */
    private static void sweep(Supplier<Run> make, OneNumber call, IntPredicate may) {
        Run run = make.get();
        for (int x = -40; x <= 90; x++) holdBad(run, call, may, x);
        Run far = make.get();
        for (int bit = 6; bit < 32; bit++) {
            for (int near = -2; near <= 2; near++) holdBad(far, call, may, (1 << bit) + near);
        }
        holdBad(far, call, may, Run.LEAST);
        holdBad(far, call, may, Run.MOST);
    }

    private static void holdBad(Run run, OneNumber call, IntPredicate may, int x) {
        long answer = call.call(run, x);
        if (may.test(x)) Run.hold(answer != BAD, x + " may be, but is BAD");
        else run.due(answer, BAD);
    }

    private static IntPredicate within(int low, int high) {
        return x -> x >= low && x <= high;
    }

    private static void badNumbers(Supplier<Run> make) {
        Run.says("BAD: a number is none that is told: THINGS, NOTHING too, where it may be");
        IntPredicate thing = within(0, 4);
        sweep(make, (r, x) -> r.worth(x, 0), thing);
        sweep(make, (r, x) -> r.worth(0, x), thing.or(x -> x == NOTHING));
        sweep(make, (r, x) -> r.odds(0, x, 0), thing);
        sweep(make, (r, x) -> { long a = r.gift(x); r.noGifts(); return a; }, thing.or(x -> x == NOTHING));
        Run.says("BAD: those in THE QUEUE, sets of them, the STRANGERS");
        sweep(make, (r, x) -> r.given(x), within(0, 5));
        sweep(make, (r, x) -> r.order(0, x), within(-1, 5));
        sweep(make, (r, x) -> r.order(x, -1), within(0, 63));
        sweep(make, (r, x) -> r.strangers(x, -1), within(0, 63));
        sweep(make, (r, x) -> r.strangers(63, x), within(-1, 11));
        sweep(make, (r, x) -> r.ahead(x, 0), within(0, 63));
        sweep(make, (r, x) -> r.ahead(63, x), within(0, 11));
        sweep(make, (r, x) -> r.asks(x, 0), within(0, 5));
        sweep(make, (r, x) -> r.swaps(x), within(-1, 5));
        Run.says("BAD: GIFTS, POSTS");
        sweep(make, (r, x) -> r.odds(x, 0, 0), within(0, 0));
        sweep(make, (r, x) -> r.likeliest(x), within(0, 0));
        sweep(make, (r, x) -> r.post(x, 0), within(0, 2));
        Run.says("BAD: what, part, KIND, n");
        sweep(make, (r, x) -> r.asks(0, x), within(0, 1));
        sweep(make, (r, x) -> r.other(x), within(0, 3));
        sweep(make, (r, x) -> r.rows(x), within(0, 1));
        sweep(make, (r, x) -> r.odds(0, 0, x), within(0, 1));
        sweep(make, (r, x) -> r.post(0, x), within(0, 3));
        sweep(make, (r, x) -> r.ring(x), within(0, 1));
        sweep(make, (r, x) -> r.count(x), within(0, 7));
        sweep(make, (r, x) -> r.write(x, 0), within(1, 8));
    }

    private static void first(Supplier<Run> make, ToLongFunction<Run> call, long want) {
        Run.changesNothing(make, call, want);
    }

    private static void ofSeveral() {
        Run.says("Of several the first: BAD ahead of NO");
        for (Supplier<Run> make : List.<Supplier<Run>>of(RefusalEdgesTest::five, RefusalEdgesTest::seven)) {
            first(make, r -> r.order(64, -1), BAD);
            first(make, r -> r.order(0, 6), BAD);
            first(make, r -> r.order(-1, 0), BAD);
            first(make, r -> r.order(0, -2), BAD);
            first(make, r -> r.strangers(64, -1), BAD);
            first(make, r -> r.strangers(0, 12), BAD);
            first(make, r -> r.strangers(0, -2), BAD);
            first(make, r -> r.ahead(64, 0), BAD);
            first(make, r -> r.ahead(0, -1), BAD);
            first(make, r -> r.ahead(0, 12), BAD);
            first(make, r -> r.rows(2), BAD);
            first(make, r -> r.rows(-1), BAD);
            first(make, r -> r.odds(1, 0, 0), BAD);
            first(make, r -> r.odds(0, 5, 0), BAD);
            first(make, r -> r.odds(0, NOTHING, 0), BAD);
            first(make, r -> r.odds(0, 0, 2), BAD);
            first(make, r -> r.likeliest(1), BAD);
            first(make, r -> r.likeliest(-1), BAD);
        }
        first(RefusalEdgesTest::bare, r -> r.ring(2), BAD);
        first(RefusalEdgesTest::bare, r -> r.ring(-1), BAD);
        Run.says("Of several the first: BAD ahead of NONE");
        Run run = Run.laid("q0;q1;").seen(0);
        run.due(run.order(3, -1), NONE);
        run.due(run.order(3, 2), BAD);
        run.due(run.strangers(0, 12), BAD);
        run.due(run.ahead(0, 12), BAD);
        run.due(run.odds(0, 0, 0), NONE);
        run.due(run.odds(1, 0, 0), BAD);
        run.due(run.odds(0, 4, 0), BAD);
        run.due(run.odds(0, 0, 2), BAD);
        run.due(run.likeliest(0), NONE);
        run.due(run.likeliest(1), BAD);
        Run.says("Of several the first: BAD ahead of FULL");
        first(RefusalEdgesTest::full, r -> r.write(9, 0), BAD);
        first(RefusalEdgesTest::full, r -> r.write(0, 0), BAD);
        first(RefusalEdgesTest::full, r -> r.gift(5), BAD);
        first(RefusalEdgesTest::full, r -> r.gift(-1), BAD);
        first(RefusalEdgesTest::full, r -> r.gift(7), BAD);
        Run.says("Of several the first: NO ahead of NONE");
        for (String text : new String[] {"m1;q0;", "m2;q0;"}) {
            run = Run.laid(text).seen(0);
            run.due(run.order(1, -1), NO);
            run.due(run.order(1, 0), NO);
            run.due(run.strangers(0, 0), NO);
            run.due(run.ahead(0, 0), NO);
            run.due(run.odds(0, 0, 0), NO);
            run.due(run.likeliest(0), NO);
        }
    }

    private static void nothingChanges() {
        Run.says("BAD; nothing changes then");
        for (int kind = 0; kind < 4; kind++) {
            int k = kind;
            Supplier<Run> make = () -> rich(k);
            first(make, r -> r.write(0, 0x71303B), BAD);
            first(make, r -> r.write(9, 0x71303B), BAD);
            first(make, r -> r.worth(5, 0), BAD);
            first(make, r -> r.worth(0, 5), BAD);
            first(make, r -> r.given(6), BAD);
            first(make, r -> r.other(4), BAD);
            first(make, r -> r.order(64, 0), BAD);
            first(make, r -> r.strangers(64, 0), BAD);
            first(make, r -> r.ahead(64, 0), BAD);
            first(make, r -> r.asks(6, 0), BAD);
            first(make, r -> r.asks(0, 2), BAD);
            first(make, r -> r.swaps(6), BAD);
            first(make, r -> r.gift(5), BAD);
            first(make, r -> r.rows(2), BAD);
            first(make, r -> r.odds(1, 0, 0), BAD);
            first(make, r -> r.likeliest(1), BAD);
            first(make, r -> r.post(3, 0), BAD);
            first(make, r -> r.post(0, 4), BAD);
            first(make, r -> r.ring(2), BAD);
            first(make, r -> r.count(8), BAD);
        }
        Run.says("NO; nothing changes then");
        for (Supplier<Run> make : List.<Supplier<Run>>of(RefusalEdgesTest::five, RefusalEdgesTest::seven)) {
            first(make, r -> r.order(0, -1), NO);
            first(make, r -> r.strangers(63, -1), NO);
            first(make, r -> r.ahead(63, 0), NO);
            first(make, r -> r.rows(0), NO);
            first(make, r -> r.odds(0, 0, 0), NO);
            first(make, r -> r.likeliest(0), NO);
        }
        first(RefusalEdgesTest::bare, Run::round, NO);
        first(RefusalEdgesTest::bare, r -> r.ring(0), NO);
        first(RefusalEdgesTest::bare, Run::before, NO);
        first(RefusalEdgesTest::bare, Run::back, NO);
        first(() -> three().instead("t2;q2;"), Run::lay, NO);
        first(() -> three().instead("t2;q1;q7;"), Run::lay, NO);
        Run.says("NONE; nothing changes then");
        first(RefusalEdgesTest::three, r -> r.order(63, -1), NONE);
        first(RefusalEdgesTest::three, r -> r.strangers(0, 0), NONE);
        first(RefusalEdgesTest::three, r -> r.ahead(0, 0), NONE);
        first(RefusalEdgesTest::three, Run::fault, NONE);
        first(() -> Run.laid("t2;q1;p0,0,0,1;").seen(0), r -> r.odds(0, 0, 0), NONE);
        first(() -> Run.laid("t2;q1;p0,0,0,1;").seen(0), r -> r.likeliest(0), NONE);
        Run.says("FULL; nothing changes then");
        for (int n = 1; n <= 8; n++) {
            int many = n;
            first(RefusalEdgesTest::full, r -> r.write(many, 0x7430303B74323B71L), FULL);
        }
        first(RefusalEdgesTest::full, r -> r.gift(0), FULL);
        first(RefusalEdgesTest::full, r -> r.gift(NOTHING), FULL);
        first(RefusalEdgesTest::full, Run::keep, FULL);
    }

    private static void askingChangesNothing() {
        Run.says("calls that only tell something change nothing");
        for (Supplier<Run> make : List.<Supplier<Run>>of(RefusalEdgesTest::three, RefusalEdgesTest::lastButOne)) {
            Run once = make.get();
            long given = once.given(3), have = once.have(), order = once.order(5, 2), comers = once.strangers(42, -1);
            long ahead = once.ahead(63, 1), asks = once.asks(2, 1), otherwise = once.otherwise(), swaps = once.swaps(-1);
            long ring = once.ring(1), before = once.before();
            first(make, r -> r.given(3), given);
            first(make, Run::have, have);
            first(make, r -> r.order(5, 2), order);
            first(make, r -> r.strangers(42, -1), comers);
            first(make, r -> r.ahead(63, 1), ahead);
            first(make, r -> r.asks(2, 1), asks);
            first(make, Run::otherwise, otherwise);
            first(make, r -> r.swaps(-1), swaps);
            first(make, r -> r.ring(1), ring);
            first(make, Run::before, before);
        }
    }

    private static void manyCalls() {
        Run.says("An object is used for at most 512 calls: the last of them answers as told");
        Run run = Run.fresh();
        for (int i = 0; i < 63; i++) {
            run.due(run.keep(), i < 2 ? i + 1 : FULL);
            run.due(run.gift(NOTHING), i < 10 ? i + 1 : FULL);
            run.due(run.write(8, 0), i < 37 ? 8 * (i + 1) : FULL);
            run.due(run.lay(), NO);
            run.due(run.round(), NO);
            run.due(run.order(1, 0), NONE);
            run.due(run.given(1), BAD);
            run.due(run.fault(), 0);
        }
        run.due(run.wipe(), 296);
        run.due(run.write(3, 0x71313BL), 3);
        run.due(run.lay(), 1);
        run.due(run.asks(0, 0), 1);
        run.due(run.count(4), 0);
        run.due(run.count(6), 0);
        run.due(run.strangers(1, 0), 1);
        run.due(run.count(5), 3);
    }

    public static void main(String[] args) {
        badNumbers(RefusalEdgesTest::three);
        badNumbers(RefusalEdgesTest::five);
        badNumbers(RefusalEdgesTest::seven);
        badNumbers(RefusalEdgesTest::lastButOne);
        ofSeveral();
        nothingChanges();
        askingChangesNothing();
        manyCalls();
        Run.end();
    }
}
