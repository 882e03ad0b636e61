import java.math.BigInteger;
import java.util.Arrays;
import java.util.HashSet;
import java.util.Random;
import java.util.Set;

/**
 * The calls that PlainModelTest can try through in small only, at their greatest sizes: all orders of ten,
 * strangers among ten, all rows of ten wishes, all gifts of six posts. Drawn by a fixed seed.
 */
public final class WideModelTest {
    private static final int NONE = -4, NOTHING = 6;
    private static int wrong = 0;
    private static int answers = 0;

    private final Random random;
    private final LastThree program = new LastThree();
    private String text;
    private int things;
    private int kind;
    private int[] asked;
    private int[] wishes;
    private int[] parts;
    private int[] feeders;
    private int[][] posts;
    private int[] gifts;

    private WideModelTest(long seed) {
        random = new Random(seed);
    }

    private void due(String call, long got, long want) {
        answers++;
        if (got != want) {
            wrong++;
            System.out.println(call + " answered " + got + ", due is " + want + ", of the text " + text);
        }
    }

    // ---- the text

    private int sign() {
        int x = random.nextInt(things + 1);
        return x == things ? NOTHING : x;
    }

    private void draw() {
        things = 2 + random.nextInt(5);
        kind = random.nextInt(3) == 0 ? 3 : 0;
        asked = random.ints(random.nextInt(7), 0, things).toArray();
        wishes = random.ints(8 + random.nextInt(3), 0, things).toArray();
        parts = random.ints(things, random.nextInt(2), 10).toArray();
        int many = 4 + random.nextInt(3);
        feeders = random.ints(many, 0, many).toArray();
        posts = new int[many][];
        for (int p = 0; p < many; p++) posts[p] = new int[] {sign(), sign(), sign()};
    }

    private void lay() {
        StringBuilder all = new StringBuilder("t" + things + ";m" + kind + ";");
        for (int x : asked) all.append("b").append(x).append(";");
        for (int x : wishes) all.append("q").append(x).append(";");
        for (int x = 0; x < things; x++) all.append("c").append(x).append(",").append(parts[x]).append(";");
        for (int p = 0; p < posts.length; p++) {
            all.append("p").append(feeders[p]);
            for (int x : posts[p]) all.append(",").append(x);
            all.append(";");
        }
        text = all.toString();
        for (int at = 0; at < text.length(); at += 8) {
            int n = Math.min(8, text.length() - at);
            long v = 0;
            for (int i = 0; i < n; i++) v = v << 8 | text.charAt(at + i);
            due("write", program.write(n, v), at + n);
        }
        due("lay()", program.lay(), wishes.length);
    }

    // ---- what is given

    /** What two or more of three are, but for NOTHING. */
    private static int most(int a, int b, int c) {
        for (int thing = 0; thing < NOTHING; thing++) {
            int times = (a == thing ? 1 : 0) + (b == thing ? 1 : 0) + (c == thing ? 1 : 0);
            if (times >= 2) return thing;
        }
        return NOTHING;
    }

    private int gives(int a, int b, int c) {
        return kind == 3 ? b : most(a, b, c);
    }

    private int askedBack(int back) {
        return asked.length >= back ? asked[asked.length - back] : NOTHING;
    }

    private static boolean in(int set, int i) {
        return (set >> i & 1) == 1;
    }

    // ---- orders

    private int bestMany;
    private final int[] best = new int[10];
    private final int[] order = new int[10];

    /** All orders, but for those in which one of the set has gone without already. */
    private void tryOrders(int set, int come, int at, int a, int b, int many) {
        if (at == wishes.length) {
            if (many > bestMany) {
                bestMany = many;
                System.arraycopy(order, 0, best, 0, at);
            }
            return;
        }
        for (int i = 0; i < wishes.length; i++) {
            if (in(come, i)) continue;
            boolean has = gives(a, b, wishes[i]) == wishes[i];
            if (!has && in(set, i)) continue;
            order[at] = i;
            tryOrders(set, come | 1 << i, at + 1, b, wishes[i], has ? many + 1 : many);
        }
    }

    private void orders(int set) {
        bestMany = NONE;
        tryOrders(set, 0, 0, askedBack(2), askedBack(1), 0);
        due("order(" + set + ", -1)", program.order(set, -1), bestMany);
        for (int i = 0; i < wishes.length; i++) {
            due("order(" + set + ", " + i + ")", program.order(set, i), bestMany == NONE ? NONE : best[i]);
        }
    }

    // ---- strangers

    private final Set<Integer> failed = new HashSet<>();
    private final int[][] come = new int[12][2];

    /** Rows with just so many strangers left, in the document's order; those known to fail are not tried again. */
    private boolean tryStrangers(int set, int left, int k, int a, int b, int many) {
        if (k == wishes.length) return left == 0;
        int key = ((left * 11 + k) * 7 + a) * 7 + b;
        if (failed.contains(key)) return false;
        for (int ask = 0; ask < things; ask++) {
            boolean comes = ask == wishes[k] && (!in(set, k) || gives(a, b, ask) == ask);
            if (comes && tryStrangers(set, left, k + 1, b, ask, many)) return true;
            if (left == 0) continue;
            come[many] = new int[] {ask, k};
            if (tryStrangers(set, left - 1, k, b, ask, many + 1)) return true;
        }
        failed.add(key);
        return false;
    }

    private void strangers(int set) {
        failed.clear();
        int many = 0;
        while (!tryStrangers(set, many, 0, askedBack(2), askedBack(1), 0)) many++;
        due("strangers(" + set + ", -1)", program.strangers(set, -1), many);
        // tryStrangers fills from 0 on, and what it left behind by failing is written over
        for (int i = 0; i < 12; i++) {
            due("strangers(" + set + ", " + i + ")", program.strangers(set, i), i < many ? come[i][0] : NONE);
            due("ahead(" + set + ", " + i + ")", program.ahead(set, i), i < many ? come[i][1] : NONE);
        }
    }

    // ---- rows

    private long number;
    private long weights;
    private long heaviest;
    private final long[][] with = new long[10][6];
    private final int[] row = new int[10];
    private final int[] likeliest = new int[10];

    private void tryRows(int at, int a, int b, long weight) {
        if (at == gifts.length) {
            number++;
            weights += weight;
            for (int i = 0; i < at; i++) with[i][row[i]] += weight;
            if (weight > heaviest) {
                heaviest = weight;
                System.arraycopy(row, 0, likeliest, 0, at);
            }
            return;
        }
        for (int wish = 0; wish < things; wish++) {
            if (parts[wish] == 0 || gives(a, b, wish) != gifts[at]) continue;
            row[at] = wish;
            tryRows(at + 1, b, wish, weight * parts[wish]);
        }
    }

    /** What a drawn row of wishes is given, so that there is a row mostly. */
    private void drawGifts() {
        gifts = new int[9 + random.nextInt(2)];
        int a = askedBack(2), b = askedBack(1);
        for (int i = 0; i < gifts.length; i++) {
            int wish = random.nextInt(things);
            gifts[i] = gives(a, b, wish);
            a = b;
            b = wish;
        }
        if (random.nextInt(8) == 0) gifts[random.nextInt(gifts.length)] = sign();
        program.noGifts();
        for (int i = 0; i < gifts.length; i++) due("gift(" + gifts[i] + ")", program.gift(gifts[i]), i + 1);
    }

    private void rows() {
        drawGifts();
        number = 0;
        weights = 0;
        heaviest = 0;
        for (long[] some : with) Arrays.fill(some, 0);
        tryRows(0, askedBack(2), askedBack(1), 1);
        String seen = " of " + Arrays.toString(gifts);
        due("rows(0)" + seen, program.rows(0), number);
        due("rows(1)" + seen, program.rows(1), weights);
        for (int i = 0; i < gifts.length; i++) {
            due("likeliest(" + i + ")" + seen, program.likeliest(i), number == 0 ? NONE : likeliest[i]);
            for (int thing = 0; thing < things; thing++) {
                long shared = BigInteger.valueOf(weights).gcd(BigInteger.valueOf(with[i][thing])).longValue();
                String call = "odds(" + i + ", " + thing + ", ";
                due(call + "0)" + seen, program.odds(i, thing, 0), number == 0 ? NONE : with[i][thing] / shared);
                due(call + "1)" + seen, program.odds(i, thing, 1), number == 0 ? NONE : weights / shared);
            }
        }
    }

    // ---- states ahead

    /** How many pairs of asks of a post become its asks and gift of now, when it is asked so. */
    private int pairsAhead(int p, int ask) {
        int many = 0;
        for (int a = 0; a <= NOTHING; a++) {
            for (int b = 0; b <= NOTHING; b++) {
                if (a >= things && a != NOTHING || b >= things && b != NOTHING) continue;
                if (Arrays.equals(posts[p], new int[] {b, ask, most(a, b, ask)})) many++;
            }
        }
        return many;
    }

    /** All gifts of all posts; by them each post is asked, whatever the others were asked ahead. */
    private long statesAhead() {
        int[][] pairs = new int[posts.length][7];
        int all = 1;
        for (int p = 0; p < posts.length; p++) {
            all *= 7;
            for (int ask = 0; ask < 7; ask++) pairs[p][ask] = pairsAhead(p, ask);
        }
        long sum = 0;
        int[] gave = new int[posts.length];
        for (int code = 0; code < all; code++) {
            boolean may = true;
            for (int p = 0, rest = code; p < gave.length; p++, rest /= 7) {
                gave[p] = rest % 7;
                may &= gave[p] < things || gave[p] == NOTHING;
            }
            long many = may ? 1 : 0;
            for (int p = 0; p < gave.length && many > 0; p++) many *= pairs[p][gave[feeders[p]]];
            sum += many;
        }
        return sum;
    }

    private void round() {
        int[] ask = new int[posts.length];
        for (int p = 0; p < posts.length; p++) ask[p] = posts[feeders[p]][2];
        int many = 0;
        for (int p = 0; p < posts.length; p++) {
            posts[p] = new int[] {posts[p][1], ask[p], most(posts[p][0], posts[p][1], ask[p])};
            if (posts[p][2] != NOTHING) many++;
        }
        due("round()", program.round(), many);
    }

    private void nets() {
        due("before()", program.before(), statesAhead());
        for (int rounds = 0; rounds < 3; rounds++) {
            round();
            due("before() behind " + (rounds + 1) + " rounds", program.before(), statesAhead());
        }
    }

    public static void main(String[] args) {
        for (int seed = 0; seed < 40; seed++) {
            WideModelTest test = new WideModelTest(seed);
            test.draw();
            test.lay();
            int everyone = (1 << test.wishes.length) - 1;
            test.orders(seed % 4 == 0 ? 0 : 1 << test.random.nextInt(test.wishes.length) | test.random.nextInt(everyone + 1)
                & test.random.nextInt(everyone + 1) & test.random.nextInt(everyone + 1));
            test.strangers(everyone);
            test.strangers(test.random.nextInt(everyone + 1));
            test.rows();
            test.nets();
        }
        System.out.println(answers + " answers at the greatest sizes, " + wrong + " not as due");
        if (wrong != 0) System.exit(1);
    }
}
