import java.util.Arrays;

/** A post in the square that gives to whoever comes what most of the last ones asked for. */
public final class LastThree {
    public static final int BAD = -1, NO = -2, FULL = -3, NONE = -4;

    private static final int NOTHING = 6;
    private static final int MOST_THINGS = 6;
    private static final int MOST_BYTES = 300;
    private static final int MOST_ASKED = 6;
    private static final int MOST_WISHES = 10;
    private static final int MOST_POSTS = 6;
    private static final int MOST_GIFTS = 10;
    private static final int MOST_KEPT = 2;
    private static final int MOST_STRANGERS = 12;
    private static final int MOST_ROUNDS = 600;

    private static final int THREE = 0;
    private static final int LAST_BUT_ONE = 3;

    /** Signs are the THINGS and NOTHING; a pair of them is first * SIGNS + second. */
    private static final int SIGNS = 7;
    private static final int PAIRS = SIGNS * SIGNS;

    private final byte[] text = new byte[MOST_BYTES];
    private int length;
    private final Reader reader = new Reader();
    private Plan laid = new Plan();
    private Plan draft = new Plan();
    private final Standing now = new Standing();
    private final Standing[] kept = {new Standing(), new Standing()};
    private int keptCount;
    private final Rail rail = new Rail();
    private final OrderFinder orders = new OrderFinder();
    private final StrangerFinder between = new StrangerFinder();
    private final RowFinder guesses = new RowFinder();
    private final Net net = new Net();

    public LastThree() {
        laid.clear();
        laid.addWish(0);
        now.begin(laid);
    }

    // ---- posts

    public int write(int n, long v) {
        if (!within(n, 1, 8)) {
            return BAD;
        }
        if (length + n > MOST_BYTES) {
            return FULL;
        }
        for (int left = n - 1; left >= 0; left--) {
            text[length] = (byte) (v >>> (8 * left));
            length++;
        }
        return length;
    }

    public int wipe() {
        int was = length;
        length = 0;
        return was;
    }

    public int fault() {
        return reader.readInto(draft, text, length);
    }

    public int lay() {
        if (reader.readInto(draft, text, length) != NONE || !draft.holdsTogether()) {
            return NO;
        }
        Plan old = laid;
        laid = draft;
        draft = old;
        now.begin(laid);
        keptCount = 0;
        orders.forget();
        between.forget();
        return laid.wishCount;
    }

    public int worth(int wish, int g) {
        if (!isThing(wish) || !isSign(g)) {
            return BAD;
        }
        return laid.worthOf(wish, g);
    }

    // ---- queues

    public int given(int i) {
        if (!isQueued(i)) {
            return BAD;
        }
        rail.comeAsWished(laid, laid.kind);
        return rail.had[i];
    }

    public int have() {
        rail.comeAsWished(laid, laid.kind);
        int many = 0;
        for (int i = 0; i < laid.wishCount; i++) {
            if (rail.had[i] == laid.wishes[i]) {
                many++;
            }
        }
        return many;
    }

    public int other(int kind) {
        if (!within(kind, THREE, LAST_BUT_ONE)) {
            return BAD;
        }
        return rail.differing(laid, kind);
    }

    public int order(int set, int i) {
        if (!isSet(set) || !(i == -1 || isQueued(i))) {
            return BAD;
        }
        if (!laid.remembersTwo()) {
            return NO;
        }
        orders.find(laid, set);
        if (orders.most < 0) {
            return NONE;
        }
        return i == -1 ? orders.most : orders.comers[i];
    }

    public int strangers(int set, int i) {
        if (!isSet(set) || !within(i, -1, MOST_STRANGERS - 1)) {
            return BAD;
        }
        if (!laid.remembersTwo()) {
            return NO;
        }
        between.find(laid, set);
        if (i == -1 && between.many <= MOST_STRANGERS) {
            return between.many;
        }
        return between.isOne(i) ? between.wishes[i] : NONE;
    }

    public int ahead(int set, int i) {
        if (!isSet(set) || !within(i, 0, MOST_STRANGERS - 1)) {
            return BAD;
        }
        if (!laid.remembersTwo()) {
            return NO;
        }
        between.find(laid, set);
        return between.isOne(i) ? between.places[i] : NONE;
    }

    public int asks(int i, int what) {
        if (!isQueued(i) || !within(what, 0, 1)) {
            return BAD;
        }
        rail.comeForThemselves(laid);
        return what == 0 ? rail.asked[i] : rail.had[i];
    }

    public int otherwise() {
        rail.comeForThemselves(laid);
        int many = 0;
        for (int i = 0; i < laid.wishCount; i++) {
            if (rail.asked[i] != laid.wishes[i]) {
                many++;
            }
        }
        return many;
    }

    public int swaps(int i) {
        if (i != -1 && !isQueued(i)) {
            return BAD;
        }
        rail.comeAsWished(laid, laid.kind);
        int often = rail.swapTillNobodyGains(laid);
        return i == -1 ? often : rail.had[i];
    }

    // ---- gifts

    public int gift(int g) {
        if (!isSign(g)) {
            return BAD;
        }
        if (now.giftCount >= MOST_GIFTS) {
            return FULL;
        }
        now.gifts[now.giftCount] = g;
        now.giftCount++;
        return now.giftCount;
    }

    public int noGifts() {
        int were = now.giftCount;
        now.giftCount = 0;
        return were;
    }

    public long rows(int what) {
        if (!within(what, 0, 1)) {
            return BAD;
        }
        if (!laid.remembersTwo()) {
            return NO;
        }
        return what == 0 ? guesses.number(laid, now) : guesses.weight(laid, now);
    }

    public long odds(int i, int thing, int part) {
        if (!isGift(i) || !isThing(thing) || !within(part, 0, 1)) {
            return BAD;
        }
        if (!laid.remembersTwo()) {
            return NO;
        }
        long all = guesses.weight(laid, now);
        if (all <= 0) {
            return NONE;
        }
        long some = guesses.weightWith(laid, now, i, thing);
        long shared = commonDivisor(all, some);
        if (shared <= 0) {
            return NONE;
        }
        return (part == 0 ? some : all) / shared;
    }

    public int likeliest(int i) {
        if (!isGift(i)) {
            return BAD;
        }
        if (!laid.remembersTwo()) {
            return NO;
        }
        return guesses.findLikeliest(laid, now) ? guesses.wishes[i] : NONE;
    }

    // ---- nets

    public int post(int p, int what) {
        if (!within(p, 0, laid.postCount - 1) || !within(what, 0, 3)) {
            return BAD;
        }
        switch (what) {
            case 0:
                return laid.feeders[p];
            case 1:
                return now.earlier[p];
            case 2:
                return now.later[p];
            default:
                return now.gave[p];
        }
    }

    public int round() {
        return laid.postCount == 0 ? NO : net.advance(laid, now);
    }

    public int ring(int what) {
        if (!within(what, 0, 1)) {
            return BAD;
        }
        if (laid.postCount == 0) {
            return NO;
        }
        if (!net.findRing(laid, now)) {
            return NONE;
        }
        return what == 0 ? net.ringStart : net.ringSize;
    }

    public long before() {
        return laid.postCount == 0 ? NO : net.statesAhead(laid, now);
    }

    public int keep() {
        if (keptCount >= MOST_KEPT) {
            return FULL;
        }
        kept[keptCount].copyFrom(now);
        keptCount++;
        return keptCount;
    }

    public int back() {
        if (keptCount <= 0) {
            return NO;
        }
        keptCount--;
        now.copyFrom(kept[keptCount]);
        return keptCount;
    }

    public int count(int what) {
        switch (what) {
            case 0:
                return laid.wishCount;
            case 1:
                return laid.things;
            case 2:
                return laid.askedCount;
            case 3:
                return laid.postCount;
            case 4:
                return now.giftCount;
            case 5:
                return length;
            case 6:
                return keptCount;
            case 7:
                return laid.kind;
            default:
                return BAD;
        }
    }

    // ---- what numbers may be

    private static boolean within(int x, int low, int high) {
        return x >= low && x <= high;
    }

    private boolean isThing(int x) {
        return within(x, 0, laid.things - 1);
    }

    private boolean isSign(int x) {
        return isThing(x) || x == NOTHING;
    }

    private boolean isQueued(int i) {
        return within(i, 0, laid.wishCount - 1);
    }

    private boolean isGift(int i) {
        return within(i, 0, now.giftCount - 1);
    }

    private boolean isSet(int set) {
        return within(set, 0, (1 << laid.wishCount) - 1);
    }

    // ---- what a memory gives

    /** What two or more of three asks are; two NOTHINGS among them make NOTHING by themselves. */
    private static int majority(int a, int b, int c) {
        if (c == a || c == b) {
            return c;
        }
        return a == b ? a : NOTHING;
    }

    /** What a memory of two asks (THREE or LAST BUT ONE) gives to who asks c behind a and b. */
    private static int givesBehind(int kind, int a, int b, int c) {
        return kind == LAST_BUT_ONE ? b : majority(a, b, c);
    }

    /** What a memory of any kind gives for the first many asks of a row. */
    private static int givesFor(int kind, int[] row, int many) {
        if (many > row.length) {
            return NOTHING;
        }
        if (kind == LAST_BUT_ONE) {
            return many >= 2 ? row[many - 2] : NOTHING;
        }
        int from = Math.max(0, many - 3 - 2 * kind);
        for (int thing = 0; thing < MOST_THINGS; thing++) {
            int times = 0;
            for (int at = from; at < many; at++) {
                if (row[at] == thing) {
                    times++;
                }
            }
            if (times >= 2 + kind) {
                return thing;
            }
        }
        return NOTHING;
    }

    private static long commonDivisor(long a, long b) {
        // Euclid's way on longs takes fewer than a hundred steps
        for (int step = 0; step < 1000 && b != 0; step++) {
            long rest = a % b;
            a = b;
            b = rest;
        }
        return a;
    }

    /** What a text tells. */
    private static final class Plan {
        int things;
        int kind;
        int askedCount;
        int wishCount;
        int postCount;
        final int[] asked = new int[MOST_ASKED];
        final int[] wishes = new int[MOST_WISHES];
        final int[] worths = new int[MOST_THINGS * SIGNS];
        final int[] parts = new int[MOST_THINGS];
        final int[] feeders = new int[MOST_POSTS];
        final int[] earlier = new int[MOST_POSTS];
        final int[] later = new int[MOST_POSTS];
        final int[] gave = new int[MOST_POSTS];
        private int highestThing;
        private int highestFeeder;

        void clear() {
            things = 4;
            kind = THREE;
            askedCount = 0;
            wishCount = 0;
            postCount = 0;
            highestThing = -1;
            highestFeeder = -1;
            Arrays.fill(parts, 1);
            Arrays.fill(worths, 0);
            for (int thing = 0; thing < MOST_THINGS; thing++) {
                worths[thing * SIGNS + thing] = 9;
            }
        }

        boolean holdsTogether() {
            return wishCount > 0 && highestThing < things && highestFeeder < postCount;
        }

        boolean remembersTwo() {
            return kind == THREE || kind == LAST_BUT_ONE;
        }

        int worthOf(int wish, int sign) {
            return worths[wish * SIGNS + sign];
        }

        /** The last ask ahead of the queue is 1 back. */
        int askedBack(int back) {
            int at = askedCount - back;
            return at >= 0 && at < askedCount ? asked[at] : NOTHING;
        }

        int pairAhead() {
            return askedBack(2) * SIGNS + askedBack(1);
        }

        boolean isIn(int set, int i) {
            return (set >> i & 1) != 0;
        }

        /** Whether the i-th is given what he wishes for behind a pair of asks. */
        boolean hasBehind(int pair, int i) {
            // THREE: his own ask is one of them, so that one more like it makes two
            int wish = wishes[i];
            return pair % SIGNS == wish || kind == THREE && pair / SIGNS == wish;
        }

        boolean setThings(int many) {
            things = many;
            return within(many, 2, MOST_THINGS);
        }

        boolean setKind(int which) {
            kind = which;
            return within(which, THREE, LAST_BUT_ONE);
        }

        boolean addAsked(int thing) {
            if (!noteThing(thing) || askedCount >= MOST_ASKED) {
                return false;
            }
            asked[askedCount] = thing;
            askedCount++;
            return true;
        }

        boolean addWish(int thing) {
            if (!noteThing(thing) || wishCount >= MOST_WISHES) {
                return false;
            }
            wishes[wishCount] = thing;
            wishCount++;
            return true;
        }

        boolean setWorth(int wish, int sign, int value) {
            if (!noteThing(wish) || !noteSign(sign) || !within(value, 0, 9)) {
                return false;
            }
            worths[wish * SIGNS + sign] = value;
            return true;
        }

        boolean setParts(int thing, int many) {
            if (!noteThing(thing) || !within(many, 0, 9)) {
                return false;
            }
            parts[thing] = many;
            return true;
        }

        boolean addPost(int feeder, int first, int second, int gift) {
            if (!within(feeder, 0, MOST_POSTS - 1) || postCount >= MOST_POSTS) {
                return false;
            }
            if (!noteSign(first) || !noteSign(second) || !noteSign(gift)) {
                return false;
            }
            feeders[postCount] = feeder;
            earlier[postCount] = first;
            later[postCount] = second;
            gave[postCount] = gift;
            postCount++;
            highestFeeder = Math.max(highestFeeder, feeder);
            return true;
        }

        private boolean noteThing(int thing) {
            if (!within(thing, 0, MOST_THINGS - 1)) {
                return false;
            }
            highestThing = Math.max(highestThing, thing);
            return true;
        }

        private boolean noteSign(int sign) {
            return sign == NOTHING || noteThing(sign);
        }
    }

    /** Reads a text, item by item, into a plan. */
    private static final class Reader {
        private static final int MOST_NUMBERS = 4;
        private static final int MOST_FIGURES = 3;
        private final int[] numbers = new int[MOST_NUMBERS];
        private int many;

        /** The place of the first item that is not so, or NONE. */
        int readInto(Plan plan, byte[] text, int length) {
            int end = Math.min(length, text.length);
            plan.clear();
            int at = 0;
            for (int item = 0; item < MOST_BYTES && at < end; item++) {
                int next = readNumbers(text, at + 1, end);
                if (next == NONE || !tell(plan, text[at])) {
                    return at;
                }
                at = next;
            }
            return NONE;
        }

        /** Reads numbers up to the semicolon: the place behind it, or NONE if they are not so. */
        private int readNumbers(byte[] text, int from, int end) {
            many = 0;
            int figures = 0;
            int value = 0;
            for (int at = from; at < end; at++) {
                int sign = text[at];
                if (sign >= '0' && sign <= '9' && figures < MOST_FIGURES) {
                    value = value * 10 + (sign - '0');
                    figures++;
                    continue;
                }
                if (sign != ',' && sign != ';' || figures == 0 || many >= MOST_NUMBERS) {
                    return NONE;
                }
                numbers[many] = value;
                many++;
                figures = 0;
                value = 0;
                if (sign == ';') {
                    return at + 1;
                }
            }
            return NONE;
        }

        private boolean tell(Plan plan, int letter) {
            int first = numbers[0];
            int second = numbers[1];
            int third = numbers[2];
            switch (letter) {
                case 't':
                    return many == 1 && plan.setThings(first);
                case 'm':
                    return many == 1 && plan.setKind(first);
                case 'b':
                    return many == 1 && plan.addAsked(first);
                case 'q':
                    return many == 1 && plan.addWish(first);
                case 'v':
                    return many == 3 && plan.setWorth(first, second, third);
                case 'c':
                    return many == 2 && plan.setParts(first, second);
                case 'p':
                    return many == 4 && plan.addPost(first, second, third, numbers[3]);
                default:
                    return false;
            }
        }
    }

    /** What changes and can be kept: the posts' asks and gifts, and the gifts that were seen. */
    private static final class Standing {
        final int[] earlier = new int[MOST_POSTS];
        final int[] later = new int[MOST_POSTS];
        final int[] gave = new int[MOST_POSTS];
        final int[] gifts = new int[MOST_GIFTS];
        int giftCount;

        void begin(Plan plan) {
            System.arraycopy(plan.earlier, 0, earlier, 0, MOST_POSTS);
            System.arraycopy(plan.later, 0, later, 0, MOST_POSTS);
            System.arraycopy(plan.gave, 0, gave, 0, MOST_POSTS);
            giftCount = 0;
        }

        void copyFrom(Standing from) {
            System.arraycopy(from.earlier, 0, earlier, 0, MOST_POSTS);
            System.arraycopy(from.later, 0, later, 0, MOST_POSTS);
            System.arraycopy(from.gave, 0, gave, 0, MOST_POSTS);
            System.arraycopy(from.gifts, 0, gifts, 0, MOST_GIFTS);
            giftCount = from.giftCount;
        }
    }

    /** The queue as it comes by the post: what each asked and what each has. */
    private static final class Rail {
        /** Each swap raises the worths together, which are 90 at most, by two or more. */
        private static final int SWAPS_BOUND = 1000;
        final int[] asked = new int[MOST_WISHES];
        final int[] had = new int[MOST_WISHES];
        private final int[] row = new int[MOST_ASKED + MOST_WISHES];

        void comeAsWished(Plan plan, int kind) {
            startRow(plan);
            for (int i = 0; i < plan.wishCount; i++) {
                int at = plan.askedCount + i;
                asked[i] = plan.wishes[i];
                row[at] = asked[i];
                had[i] = givesFor(kind, row, at + 1);
            }
        }

        void comeForThemselves(Plan plan) {
            startRow(plan);
            for (int i = 0; i < plan.wishCount; i++) {
                int at = plan.askedCount + i;
                asked[i] = bestAsk(plan, at, plan.wishes[i]);
                row[at] = asked[i];
                had[i] = givesFor(plan.kind, row, at + 1);
            }
        }

        int differing(Plan plan, int kind) {
            comeAsWished(plan, plan.kind);
            int many = 0;
            for (int i = 0; i < plan.wishCount; i++) {
                if (givesFor(kind, row, plan.askedCount + i + 1) != had[i]) {
                    many++;
                }
            }
            return many;
        }

        int swapTillNobodyGains(Plan plan) {
            int often = 0;
            while (often < SWAPS_BOUND && swapFirstTwo(plan)) {
                often++;
            }
            return often;
        }

        private void startRow(Plan plan) {
            System.arraycopy(plan.asked, 0, row, 0, MOST_ASKED);
        }

        /** The wish itself is tried first, so that only a better ask takes its place. */
        private int bestAsk(Plan plan, int at, int wish) {
            int best = wish;
            int bestWorth = worthOfAsk(plan, at, wish, wish);
            for (int thing = 0; thing < plan.things; thing++) {
                int value = worthOfAsk(plan, at, wish, thing);
                if (value > bestWorth) {
                    best = thing;
                    bestWorth = value;
                }
            }
            return best;
        }

        private int worthOfAsk(Plan plan, int at, int wish, int ask) {
            row[at] = ask;
            return plan.worthOf(wish, givesFor(plan.kind, row, at + 1));
        }

        private boolean swapFirstTwo(Plan plan) {
            for (int i = 0; i < plan.wishCount; i++) {
                for (int j = i + 1; j < plan.wishCount; j++) {
                    if (gains(plan, i, j) && gains(plan, j, i)) {
                        int swapped = had[i];
                        had[i] = had[j];
                        had[j] = swapped;
                        return true;
                    }
                }
            }
            return false;
        }

        private boolean gains(Plan plan, int i, int from) {
            int wish = plan.wishes[i];
            return plan.worthOf(wish, had[from]) > plan.worthOf(wish, had[i]);
        }
    }

    /** The order of the queue by which most have what they wish for. */
    private static final class OrderFinder {
        private static final int IMPOSSIBLE = -1;
        final int[] comers = new int[MOST_WISHES];
        /** How many have what they wish for; below 0: there is no such order. */
        int most;
        private int set = -1;
        /** For each i the bits of those lower ones that wish alike and are as he is in the set or not. */
        private final int[] alike = new int[MOST_WISHES];
        /**
         * What is known of who has come and the last ask but one, four bits for each last ask:
         * 0 unknown, else 2 more than the most that those left can have. Packed, to keep it small.
         */
        private final int[] known = new int[(1 << MOST_WISHES) * SIGNS];

        void forget() {
            set = -1;
        }

        void find(Plan plan, int wanted) {
            if (set == wanted) {
                return;
            }
            set = wanted;
            Arrays.fill(known, 0);
            findAlike(plan);
            most = mostLeft(plan, 0, plan.pairAhead(), 0);
            if (most >= 0) {
                followMost(plan);
            }
        }

        private void findAlike(Plan plan) {
            for (int i = 0; i < plan.wishCount; i++) {
                alike[i] = 0;
                for (int j = 0; j < i; j++) {
                    if (plan.wishes[j] == plan.wishes[i] && plan.isIn(set, j) == plan.isIn(set, i)) {
                        alike[i] |= 1 << j;
                    }
                }
            }
        }

        /** Of those who are alike the lowest comes first: the others would change no gift. */
        private boolean mayCome(Plan plan, int i, int come) {
            return !plan.isIn(come, i) && (alike[i] & ~come) == 0;
        }

        /** The most of those left who have what they wish for, when some have come and a pair was asked last. */
        private int mostLeft(Plan plan, int come, int pair, int depth) {
            if (depth >= plan.wishCount) {
                return 0;
            }
            int place = come * SIGNS + pair / SIGNS;
            int shift = 4 * (pair % SIGNS);
            int note = known[place] >> shift & 15;
            if (note != 0) {
                return note - 2;
            }
            int best = IMPOSSIBLE;
            for (int i = 0; i < plan.wishCount; i++) {
                if (mayCome(plan, i, come)) {
                    best = Math.max(best, mostIfComes(plan, i, come, pair, depth));
                }
            }
            known[place] |= best + 2 << shift;
            return best;
        }

        private int mostIfComes(Plan plan, int i, int come, int pair, int depth) {
            boolean has = plan.hasBehind(pair, i);
            if (!has && plan.isIn(set, i)) {
                return IMPOSSIBLE;
            }
            int left = mostLeft(plan, come | 1 << i, pairBehind(plan, pair, i), depth + 1);
            return has && left >= 0 ? left + 1 : left;
        }

        private int pairBehind(Plan plan, int pair, int i) {
            return pair % SIGNS * SIGNS + plan.wishes[i];
        }

        private void followMost(Plan plan) {
            int come = 0;
            int pair = plan.pairAhead();
            for (int depth = 0; depth < plan.wishCount; depth++) {
                int next = firstOfMost(plan, come, pair, depth);
                comers[depth] = next;
                come |= 1 << next;
                pair = pairBehind(plan, pair, next);
            }
        }

        private int firstOfMost(Plan plan, int come, int pair, int depth) {
            int goal = mostLeft(plan, come, pair, depth);
            for (int i = 0; i < plan.wishCount; i++) {
                if (mayCome(plan, i, come) && mostIfComes(plan, i, come, pair, depth) == goal) {
                    return i;
                }
            }
            return 0;
        }
    }

    /** The fewest strangers by whom all of a set have what they wish for. */
    private static final class StrangerFinder {
        /** Above every number of strangers that can be needed. */
        private static final int TOO_MANY = 100;
        final int[] wishes = new int[MOST_STRANGERS];
        /** How many of the queue are ahead of each stranger. */
        final int[] places = new int[MOST_STRANGERS];
        int many;
        private int set = -1;
        /** The fewest from the i-th of the queue on, behind a pair of asks: at i * PAIRS + pair. */
        private final int[] fewest = new int[(MOST_WISHES + 1) * PAIRS];
        private final int[] fewestBehind = new int[SIGNS];

        void forget() {
            set = -1;
        }

        boolean isOne(int i) {
            return many <= MOST_STRANGERS && i >= 0 && i < many;
        }

        void find(Plan plan, int wanted) {
            if (set == wanted) {
                return;
            }
            set = wanted;
            Arrays.fill(fewest, 0);
            for (int i = plan.wishCount - 1; i >= 0; i--) {
                findFewest(plan, i);
            }
            many = fewest[plan.pairAhead()];
            if (many <= MOST_STRANGERS) {
                follow(plan);
            }
        }

        /** Two strangers make any pair of asks, so that more than two ahead of one are never needed. */
        private void findFewest(Plan plan, int i) {
            int behindTwo = TOO_MANY;
            for (int last = 0; last < SIGNS; last++) {
                fewestBehind[last] = TOO_MANY;
                for (int thing = 0; thing < plan.things; thing++) {
                    int cost = costAtOnce(plan, i, last * SIGNS + thing);
                    fewestBehind[last] = Math.min(fewestBehind[last], cost);
                }
                if (last < plan.things) {
                    behindTwo = Math.min(behindTwo, fewestBehind[last]);
                }
            }
            for (int pair = 0; pair < PAIRS; pair++) {
                int cost = Math.min(costAtOnce(plan, i, pair), behindTwo + 2);
                fewest[i * PAIRS + pair] = Math.min(cost, fewestBehind[pair % SIGNS] + 1);
            }
        }

        private int costAtOnce(Plan plan, int i, int pair) {
            if (plan.isIn(set, i) && !plan.hasBehind(pair, i)) {
                return TOO_MANY;
            }
            return fewest[(i + 1) * PAIRS + pair % SIGNS * SIGNS + plan.wishes[i]];
        }

        private void follow(Plan plan) {
            int i = 0;
            int pair = plan.pairAhead();
            int come = 0;
            for (int step = 0; step < MOST_WISHES + MOST_STRANGERS && i < plan.wishCount; step++) {
                int ask = firstStranger(plan, i, pair);
                if (ask == NONE) {
                    ask = plan.wishes[i];
                    i++;
                } else if (come < MOST_STRANGERS) {
                    wishes[come] = ask;
                    places[come] = i;
                    come++;
                }
                pair = pair % SIGNS * SIGNS + ask;
            }
        }

        /** The stranger who comes ahead of the i-th, or NONE if the i-th comes himself. */
        private int firstStranger(Plan plan, int i, int pair) {
            int goal = fewest[i * PAIRS + pair];
            boolean comes = costAtOnce(plan, i, pair) == goal;
            int below = comes ? plan.wishes[i] : plan.things;
            for (int thing = 0; thing < below; thing++) {
                if (fewest[i * PAIRS + pair % SIGNS * SIGNS + thing] + 1 == goal) {
                    return thing;
                }
            }
            return NONE;
        }
    }

    /** The rows of wishes by which just the gifts that were seen are given. */
    private static final class RowFinder {
        private static final int ANY = -1;
        /** The likeliest row. */
        final int[] wishes = new int[MOST_GIFTS];
        /** The greatest weight from the i-th gift on, behind a pair of asks: at i * PAIRS + pair; 0: no row. */
        private final long[] greatest = new long[(MOST_GIFTS + 1) * PAIRS];
        private final long[] sums = new long[(MOST_GIFTS + 1) * PAIRS];
        private final long[] shares = new long[MOST_THINGS];

        long number(Plan plan, Standing seen) {
            for (int thing = 0; thing < MOST_THINGS; thing++) {
                shares[thing] = plan.parts[thing] > 0 ? 1 : 0;
            }
            return sumUp(plan, seen, ANY, ANY);
        }

        long weight(Plan plan, Standing seen) {
            return weightWith(plan, seen, ANY, ANY);
        }

        /** The weight of all rows whose wish at a place is a told one. */
        long weightWith(Plan plan, Standing seen, int place, int told) {
            for (int thing = 0; thing < MOST_THINGS; thing++) {
                shares[thing] = plan.parts[thing];
            }
            return sumUp(plan, seen, place, told);
        }

        private long sumUp(Plan plan, Standing seen, int place, int told) {
            Arrays.fill(sums, 0);
            sums[plan.pairAhead()] = 1;
            for (int i = 0; i < seen.giftCount; i++) {
                for (int thing = 0; thing < plan.things; thing++) {
                    if (i != place || thing == told) {
                        sumOver(plan, i, seen.gifts[i], thing);
                    }
                }
            }
            long all = 0;
            for (int pair = 0; pair < PAIRS; pair++) {
                all += sums[seen.giftCount * PAIRS + pair];
            }
            return all;
        }

        private void sumOver(Plan plan, int i, int gift, int thing) {
            for (int pair = 0; pair < PAIRS; pair++) {
                int last = pair % SIGNS;
                if (givesBehind(plan.kind, pair / SIGNS, last, thing) == gift) {
                    sums[(i + 1) * PAIRS + last * SIGNS + thing] += sums[i * PAIRS + pair] * shares[thing];
                }
            }
        }

        /** Whether there is a row; the likeliest one is then known. */
        boolean findLikeliest(Plan plan, Standing seen) {
            Arrays.fill(greatest, 1);
            for (int i = seen.giftCount - 1; i >= 0; i--) {
                for (int pair = 0; pair < PAIRS; pair++) {
                    greatest[i * PAIRS + pair] = greatestFrom(plan, i, pair, seen.gifts[i]);
                }
            }
            int pair = plan.pairAhead();
            if (greatest[pair] == 0) {
                return false;
            }
            for (int i = 0; i < seen.giftCount; i++) {
                wishes[i] = firstOfGreatest(plan, i, pair, seen.gifts[i]);
                pair = pair % SIGNS * SIGNS + wishes[i];
            }
            return true;
        }

        private long greatestFrom(Plan plan, int i, int pair, int gift) {
            long best = 0;
            for (int thing = 0; thing < plan.things; thing++) {
                best = Math.max(best, weightFrom(plan, i, pair, gift, thing));
            }
            return best;
        }

        private long weightFrom(Plan plan, int i, int pair, int gift, int thing) {
            int last = pair % SIGNS;
            if (givesBehind(plan.kind, pair / SIGNS, last, thing) != gift) {
                return 0;
            }
            return plan.parts[thing] * greatest[(i + 1) * PAIRS + last * SIGNS + thing];
        }

        private int firstOfGreatest(Plan plan, int i, int pair, int gift) {
            for (int thing = 0; thing < plan.things; thing++) {
                if (weightFrom(plan, i, pair, gift, thing) == greatest[i * PAIRS + pair]) {
                    return thing;
                }
            }
            return 0;
        }
    }

    /** Posts that are fed by one another. */
    private static final class Net {
        int ringStart;
        int ringSize;
        private final int[] fed = new int[MOST_POSTS];
        private final Standing trial = new Standing();
        private final long[] states = new long[MOST_ROUNDS + 1];

        /** A round: how many posts gave a thing. */
        int advance(Plan plan, Standing state) {
            for (int p = 0; p < plan.postCount; p++) {
                fed[p] = state.gave[plan.feeders[p]];
            }
            int many = 0;
            for (int p = 0; p < plan.postCount; p++) {
                state.gave[p] = majority(state.earlier[p], state.later[p], fed[p]);
                state.earlier[p] = state.later[p];
                state.later[p] = fed[p];
                if (state.gave[p] != NOTHING) {
                    many++;
                }
            }
            return many;
        }

        boolean findRing(Plan plan, Standing state) {
            trial.copyFrom(state);
            states[0] = numberOf(plan, trial);
            for (int rounds = 1; rounds <= MOST_ROUNDS; rounds++) {
                advance(plan, trial);
                states[rounds] = numberOf(plan, trial);
                for (int earlier = 0; earlier < rounds; earlier++) {
                    if (states[earlier] == states[rounds]) {
                        ringStart = earlier;
                        ringSize = rounds - earlier;
                        return true;
                    }
                }
            }
            return false;
        }

        /** Eighteen signs at most, so that each state has a number of its own in a long. */
        private long numberOf(Plan plan, Standing state) {
            long number = 0;
            for (int p = 0; p < plan.postCount; p++) {
                number = number * SIGNS + state.earlier[p];
                number = number * SIGNS + state.later[p];
                number = number * SIGNS + state.gave[p];
            }
            return number;
        }

        /**
         * How many states become this one: the last ask of each post then is its last but one now, what
         * feeds others gave what they were asked now; its last ask but one then, and the gifts of those
         * that feed nobody, are free as far as they make the gifts of now.
         */
        long statesAhead(Plan plan, Standing state) {
            long many = 1;
            for (int p = 0; p < plan.postCount; p++) {
                many *= asksAhead(plan, state, p) * giftsAhead(plan, state, p);
            }
            return many;
        }

        private long asksAhead(Plan plan, Standing state, int p) {
            long many = 0;
            for (int sign = 0; sign < SIGNS; sign++) {
                boolean may = sign < plan.things || sign == NOTHING;
                if (may && majority(sign, state.earlier[p], state.later[p]) == state.gave[p]) {
                    many++;
                }
            }
            return many;
        }

        private long giftsAhead(Plan plan, Standing state, int p) {
            long many = 0;
            for (int sign = 0; sign < SIGNS; sign++) {
                boolean may = sign < plan.things || sign == NOTHING;
                for (int q = 0; q < plan.postCount; q++) {
                    may = may && (plan.feeders[q] != p || state.later[q] == sign);
                }
                if (may) {
                    many++;
                }
            }
            return many;
        }
    }
}
