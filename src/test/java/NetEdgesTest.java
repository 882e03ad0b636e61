import java.util.ArrayList;
import java.util.List;
import java.util.Random;

/** Promises 21 to 27: each sentence on nets that names a boundary, at the boundary and on both sides of it. */
public final class NetEdgesTest {
    private static final int BAD = Run.BAD, NO = Run.NO, FULL = Run.FULL, NOTHING = Run.NOTHING;

    private static void duePost(Run run, int p, int... want) {
        for (int what = 0; what < 4; what++) run.due(run.post(p, what), want[what]);
    }

    private static void posts() {
        Run.says("POSTS, such as there are: of none to six");
        for (int n = 0; n <= 6; n++) {
            Run run = Run.laid("q0;" + Run.times("p0,1,2,3;", n));
            if (n > 0) duePost(run, 0, 0, 1, 2, 3);
            if (n > 0) duePost(run, n - 1, 0, 1, 2, 3);
            for (int p : new int[] {-1, n, n + 1, 6, 256, Run.LEAST, Run.MOST}) {
                run.due(run.post(p, 0), BAD);
                run.due(run.post(p, 3), BAD);
            }
        }
        Run.says("feeds it (what = 0), asked last but one (1), last (2), gave last (3). BAD");
        Run run = Run.laid("t6;q0;p1,0,3,6;p0,6,5,4;");
        duePost(run, 0, 1, 0, 3, 6);
        duePost(run, 1, 0, 6, 5, 4);
        for (int what : new int[] {-1, 4, 256, Run.LEAST, Run.MOST}) run.due(run.post(0, what), BAD);
    }

    private static void dueRound(String net, int things, int... post) {
        Run run = Run.laid("t4;q0;" + net);
        run.due(run.round(), things);
        duePost(run, 0, post);
    }

    private static void rounds() {
        Run.says("NO: there are none");
        Run.changesNothing(Run::fresh, Run::round, NO);
        Run.changesNothing(() -> Run.laid("q0;").seen(NOTHING), Run::round, NO);
        Run.says("gives what two or more of its last three asks are (not NOTHING), else NOTHING");
        dueRound("p0,1,2,3;", 0, 0, 2, 3, NOTHING);
        dueRound("p0,1,2,1;", 1, 0, 2, 1, 1);
        dueRound("p0,1,2,2;", 1, 0, 2, 2, 2);
        dueRound("p0,1,1,2;", 1, 0, 1, 2, 1);
        dueRound("p0,1,1,1;", 1, 0, 1, 1, 1);
        dueRound("p0,0,0,3;", 1, 0, 0, 3, 0);
        Run.says("(not NOTHING): two NOTHINGS beside a THING, three of them, one beside two of a THING");
        dueRound("p0,6,6,1;", 0, 0, 6, 1, NOTHING);
        dueRound("p0,6,1,6;", 0, 0, 1, 6, NOTHING);
        dueRound("p0,1,6,6;", 0, 0, 6, 6, NOTHING);
        dueRound("p0,6,6,6;", 0, 0, 6, 6, NOTHING);
        dueRound("p0,6,1,1;", 1, 0, 1, 1, 1);
        dueRound("p0,1,6,1;", 1, 0, 6, 1, 1);
        dueRound("p0,1,1,6;", 1, 0, 1, 6, 1);
        Run.says("all at once: each is asked what was given ahead of the ROUND");
        Run chain = Run.laid("t4;q0;p2,0,0,1;p0,1,1,2;p1,2,2,3;");
        chain.due(chain.round(), 3);
        duePost(chain, 0, 2, 0, 3, 0);
        duePost(chain, 1, 0, 1, 1, 1);
        duePost(chain, 2, 1, 2, 2, 2);
        Run.says("how many POSTS gave a THING: from none to six");
        for (int n = 0; n <= 6; n++) {
            StringBuilder net = new StringBuilder();
            for (int p = 0; p < 6; p++) net.append("p").append(p).append(p < n ? ",0,0,0;" : ",6,6,6;");
            Run run = Run.laid("q0;" + net);
            run.due(run.round(), n);
            run.due(run.round(), n);
        }
        Run.says("its last three asks: whatever the MEMORY's KIND is");
        for (int kind = 0; kind < 4; kind++) {
            Run run = Run.laid("q0;p0,1,2,1;m" + kind + ";");
            run.due(run.round(), 1);
            duePost(run, 0, 0, 2, 1, 1);
        }
    }

    private static void dueRing(String text, int behind, int more) {
        Run run = Run.laid(text);
        run.due(run.ring(0), behind);
        run.due(run.ring(1), more);
    }

    private static void rings() {
        Run.says("RING: behind how many ROUNDS (0 on): the state that is now may be it");
        dueRing("q0;p0,1,1,1;", 0, 1);
        dueRing("q0;p0,6,6,6;", 0, 1);
        dueRing("q0;p1,0,0,0;p0,1,1,1;", 0, 4);
        Run.says("RING: a state (asks, gifts of all): a gift alone, an ask alone are not like it");
        dueRing("q0;p0,1,1,2;", 3, 1);
        dueRing("q0;p0,0,1,1;", 1, 1);
        dueRing("q0;p0,0,0,1;p1,2,2,2;", 3, 1);
        Run.says("behind how many (what = 0), how many more (1). BAD; NO: no POSTS");
        Run run = Run.laid("q0;p0,1,1,1;");
        Run bare = Run.laid("q0;");
        for (int what : new int[] {-1, 2, 256, Run.LEAST, Run.MOST}) {
            run.due(run.ring(what), BAD);
            bare.due(bare.ring(what), BAD);
        }
        bare.due(bare.ring(0), NO);
        bare.due(bare.ring(1), NO);
        Run.changesNothing(() -> Run.laid("q0;").seen(NOTHING), r -> r.ring(0), NO);
        Run.changesNothing(() -> Run.laid("q0;p0,0,1,2;"), r -> r.ring(0), 3);
        Run.changesNothing(() -> Run.laid("q0;p0,0,1,2;"), r -> r.ring(2), BAD);
        Run.says("none within 600 ROUNDS: followed for nets of each size, all come again long before");
        Random random = new Random(11);
        for (int times = 0; times < 300; times++) followRing(random, 1 + times % 6);
    }

    private static String state(Run run, int posts) {
        StringBuilder all = new StringBuilder();
        for (int p = 0; p < posts; p++) for (int what = 1; what < 4; what++) all.append(run.post(p, what));
        return all.toString();
    }

    /** Calls are few on one object, so that a new one goes on from the told state when they are used up. */
    private static void followRing(Random random, int posts) {
        int[] feeders = new int[posts];
        StringBuilder net = new StringBuilder("t6;q0;");
        for (int p = 0; p < posts; p++) {
            feeders[p] = random.nextInt(4) == 0 ? random.nextInt(posts) : (p + 1) % posts;
            net.append("p").append(feeders[p]);
            for (int k = 0; k < 3; k++) net.append(',').append(random.nextInt(7));
            net.append(';');
        }
        Run run = Run.laid(net.toString());
        long behind = run.ring(0);
        long more = run.ring(1);
        List<String> states = new ArrayList<>();
        states.add(state(run, posts));
        while (states.size() <= 600 && states.indexOf(states.get(states.size() - 1)) == states.size() - 1) {
            String now = states.get(states.size() - 1);
            StringBuilder text = new StringBuilder("t6;q0;");
            for (int p = 0; p < posts; p++) {
                text.append("p").append(feeders[p]);
                for (int k = 0; k < 3; k++) text.append(',').append(now.charAt(3 * p + k));
                text.append(';');
            }
            Run next = Run.laid(text.toString());
            next.round();
            states.add(state(next, posts));
        }
        int first = states.indexOf(states.get(states.size() - 1));
        Run.hold(behind == first && more == states.size() - 1 - first, net + " has a ring of " + behind + ", " + more
            + ", followed: " + first + ", " + (states.size() - 1 - first));
    }

    private static void dueBefore(String text, long want) {
        Run run = Run.laid(text);
        run.due(run.before(), want);
    }

    private static void before() {
        Run.says("AHEAD. NO: no POSTS");
        Run.changesNothing(Run::fresh, Run::before, NO);
        Run.changesNothing(() -> Run.laid("q0;").seen(NOTHING), Run::before, NO);
        Run.says("0 to N less 1 or NOTHING each: for each N");
        for (int n = 2; n <= 6; n++) {
            String head = "q0;t" + n + ";";
            dueBefore(head + "p0,0,0,0;", n + 1);
            dueBefore(head + "p0,6,6,6;", n + 1);
            dueBefore(head + "p0,0,0,0;p0,0,0,0;", (n + 1L) * (n + 1) * (n + 1));
        }
        Run.says("two asks and a gift: what none can have become is 0");
        dueBefore("q0;p0,0,0,1;", 0);
        dueBefore("q0;p0,0,0,6;", 0);
        dueBefore("q0;p0,0,0,0;p0,1,1,1;", 0);
        dueBefore("q0;p0,0,1,2;", 0);
        Run.says("the asks that make what it gave: one, the rest, NOTHING's");
        dueBefore("q0;p0,0,1,0;", 1);
        dueBefore("q0;p0,0,1,1;", 1);
        dueBefore("q0;p0,0,1,6;", 3);
        dueBefore("q0;p0,6,1,1;", 1);
        dueBefore("q0;p0,6,1,6;", 4);
        dueBefore("q0;p0,1,6,6;", 4);
        Run.says("the most there can be: six POSTS, six THINGS");
        dueBefore("t6;q0;" + Run.times("p0,0,0,0;", 6), 1977326743L);
        Run.says("AHEAD is of the one that is now: behind a ROUND there is one");
        Run run = Run.laid("q0;p0,0,0,1;");
        run.due(run.before(), 0);
        run.round();
        run.due(run.before(), 1);
        Run.changesNothing(() -> Run.laid("q0;p0,0,0,0;"), Run::before, 5);
    }

    private static void kept() {
        Run.says("KEPT are the NET, GIFTS: 2 at most. FULL");
        Run run = Run.laid("t3;q0;p0,0,1,2;").seen(NOTHING);
        run.due(run.keep(), 1);
        run.round();
        run.seen(NOTHING);
        run.due(run.keep(), 2);
        run.round();
        run.seen(NOTHING);
        run.due(run.keep(), FULL);
        run.due(run.count(6), 2);
        Run.says("As KEPT last: how many are left");
        duePost(run, 0, 0, 2, NOTHING, NOTHING);
        run.due(run.back(), 1);
        duePost(run, 0, 0, 1, 2, NOTHING);
        run.due(run.count(4), 2);
        run.due(run.back(), 0);
        duePost(run, 0, 0, 0, 1, 2);
        run.due(run.count(4), 1);
        Run.says("back. NO");
        run.due(run.back(), NO);
        duePost(run, 0, 0, 0, 1, 2);
        run.due(run.count(4), 1);
        run.due(run.count(6), 0);
        Run.says("KEPT: room for two again");
        run.due(run.keep(), 1);
        run.due(run.keep(), 2);
        run.due(run.keep(), FULL);
        Run.says("FULL: nothing changes, what was KEPT neither");
        Run.changesNothing(NetEdgesTest::twoKept, Run::keep, FULL);
        Run.says("NO: nothing changes where nothing is KEPT");
        Run.changesNothing(() -> Run.laid("t3;q0;p0,0,1,2;").seen(NOTHING, 1), Run::back, NO);
        Run.changesNothing(Run::fresh, Run::back, NO);
        Run.says("KEPT are the NET, GIFTS: no GIFTS and ten, and without POSTS");
        Run ten = Run.fresh();
        ten.due(ten.keep(), 1);
        ten.seen(6, 6, 6, 6, 6, 6, 6, 6, 6, 6);
        ten.due(ten.keep(), 2);
        ten.noGifts();
        ten.due(ten.back(), 1);
        ten.due(ten.count(4), 10);
        ten.due(ten.gift(0), FULL);
        ten.due(ten.back(), 0);
        ten.due(ten.count(4), 0);
        Run.says("KEPT are the GIFTS themselves, not how many alone");
        Run seen = Run.laid("t3;q0;").seen(NOTHING, 1);
        seen.keep();
        seen.noGifts();
        seen.seen(NOTHING, 2);
        seen.keep();
        seen.noGifts();
        seen.seen(NOTHING, 0);
        seen.due(seen.likeliest(1), 0);
        seen.due(seen.back(), 1);
        seen.due(seen.likeliest(1), 2);
        seen.noGifts();
        seen.seen(0, 0);
        seen.due(seen.back(), 0);
        seen.due(seen.likeliest(1), 1);
        Run.says("KEPT are the NET, GIFTS: THE TEXT is not");
        Run text = Run.written("q0;");
        text.keep();
        text.put("q1;");
        text.due(text.back(), 0);
        text.due(text.count(5), 6);
        text.due(text.lay(), 2);
    }

    private static Run twoKept() {
        Run run = Run.laid("t3;q0;p1,0,1,2;p0,1,1,0;").seen(NOTHING);
        run.keep();
        run.round();
        run.seen(NOTHING, NOTHING);
        run.keep();
        run.round();
        run.noGifts();
        return run.seen(NOTHING, 1);
    }

    private static void counts() {
        Run.says("How many: 0 in THE QUEUE .. 7 the KIND of the MEMORY. BAD");
        Run run = twoKept();
        int[] want = {1, 3, 0, 2, 2, 24, 2, 0};
        for (int what = 0; what < 8; what++) run.due(run.count(what), want[what]);
        for (int what : new int[] {-1, 8, 9, 256, Run.LEAST, Run.MOST}) run.due(run.count(what), BAD);
        Run.changesNothing(NetEdgesTest::twoKept, r -> r.count(8), BAD);
        Run.changesNothing(NetEdgesTest::twoKept, r -> r.count(-1), BAD);
        Run.says("How many: each at its most");
        String text = "t6;m3;" + Run.times("b0;", 6) + Run.times("q0;", 10) + Run.times("p0,0,0,0;", 6);
        Run full = Run.laid(text).seen(6, 6, 6, 6, 6, 6, 6, 6, 6, 6);
        full.keep();
        full.keep();
        full.put(Run.times("x", 300 - text.length()));
        int[] most = {10, 6, 6, 6, 10, 300, 2, 3};
        for (int what = 0; what < 8; what++) full.due(full.count(what), most[what]);
    }

    public static void main(String[] args) {
        posts();
        rounds();
        rings();
        before();
        kept();
        counts();
        Run.end();
    }
}
