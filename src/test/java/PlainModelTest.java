import java.util.ArrayDeque;
import java.util.ArrayList;
import java.util.Arrays;
import java.util.Collections;
import java.util.Deque;
import java.util.HashMap;
import java.util.List;
import java.util.Map;
import java.util.Random;
import java.util.regex.Matcher;
import java.util.regex.Pattern;

/**
 * Runs of calls, drawn by a fixed seed, against a model that follows the document's words by trying
 * everything: all orders, all rows of strangers, all rows of wishes, all states of a net.
 */
public final class PlainModelTest {
    private static final int BAD = -1, NO = -2, FULL = -3, NONE = -4, NOTHING = 6;

    /** Answers every call by the plainest way, with no care for time. */
    private static final class Model {
        String text = "";
        int things = 4;
        int kind = 0;
        List<Integer> asked = new ArrayList<>();
        List<Integer> wishes = new ArrayList<>(List.of(0));
        Map<String, Integer> worths = new HashMap<>();
        Map<Integer, Integer> parts = new HashMap<>();
        List<Integer> feeders = new ArrayList<>();
        List<int[]> posts = new ArrayList<>();
        List<Integer> gifts = new ArrayList<>();
        Deque<List<int[]>> keptPosts = new ArrayDeque<>();
        Deque<List<Integer>> keptGifts = new ArrayDeque<>();

        int write(int n, long v) {
            if (n < 1 || n > 8) return BAD;
            if (text.length() + n > 300) return FULL;
            byte[] all = java.nio.ByteBuffer.allocate(8).putLong(v).array();
            for (int i = 8 - n; i < 8; i++) text += (char) (all[i] & 255);
            return text.length();
        }

        int wipe() {
            int was = text.length();
            text = "";
            return was;
        }

        private static final Pattern ITEM = Pattern.compile(
            "(?:[tmbq]0*[0-9]|v\\d{1,3},\\d{1,3},\\d{1,3}|c\\d{1,3},\\d{1,3}|p\\d{1,3},\\d{1,3},\\d{1,3},\\d{1,3});");

        private static boolean in(int x, int low, int high) {
            return low <= x && x <= high;
        }

        private static int[] numbersOf(String item) {
            return Arrays.stream(item.substring(1, item.length() - 1).split(",")).mapToInt(Integer::parseInt).toArray();
        }

        private static boolean itemIsSo(String item, List<String> earlier) {
            char letter = item.charAt(0);
            for (String number : item.substring(1, item.length() - 1).split(",")) {
                if (number.length() > 3) return false;
            }
            int[] x = numbersOf(item);
            long alike = earlier.stream().filter(e -> e.charAt(0) == letter).count();
            switch (letter) {
                case 't': return in(x[0], 2, 6);
                case 'm': return in(x[0], 0, 3);
                case 'b': return in(x[0], 0, 5) && alike < 6;
                case 'q': return in(x[0], 0, 5) && alike < 10;
                case 'v': return in(x[0], 0, 5) && in(x[1], 0, 6) && in(x[2], 0, 9);
                case 'c': return in(x[0], 0, 5) && in(x[1], 0, 9);
                default: return in(x[0], 0, 5) && in(x[1], 0, 6) && in(x[2], 0, 6) && in(x[3], 0, 6) && alike < 6;
            }
        }

        private int split(List<String> items) {
            Matcher matcher = ITEM.matcher(text);
            int at = 0;
            while (at < text.length()) {
                matcher.region(at, text.length());
                if (!matcher.lookingAt() || !itemIsSo(matcher.group(), items)) return at;
                items.add(matcher.group());
                at = matcher.end();
            }
            return NONE;
        }

        int fault() {
            return split(new ArrayList<>());
        }

        int lay() {
            List<String> items = new ArrayList<>();
            if (split(items) != NONE) return NO;
            int many = 4, newKind = 0, highest = -1;
            List<Integer> newAsked = new ArrayList<>(), newWishes = new ArrayList<>(), newFeeders = new ArrayList<>();
            Map<String, Integer> newWorths = new HashMap<>();
            Map<Integer, Integer> newParts = new HashMap<>();
            List<int[]> newPosts = new ArrayList<>();
            List<Integer> told = new ArrayList<>();
            for (String item : items) {
                int[] x = numbersOf(item);
                switch (item.charAt(0)) {
                    case 't': many = x[0]; break;
                    case 'm': newKind = x[0]; break;
                    case 'b': newAsked.add(x[0]); told.add(x[0]); break;
                    case 'q': newWishes.add(x[0]); told.add(x[0]); break;
                    case 'v': newWorths.put(x[0] + "," + x[1], x[2]); told.add(x[0]); told.add(x[1]); break;
                    case 'c': newParts.put(x[0], x[1]); told.add(x[0]); break;
                    default:
                        newFeeders.add(x[0]);
                        newPosts.add(new int[] {x[1], x[2], x[3]});
                        told.addAll(List.of(x[1], x[2], x[3]));
                }
            }
            for (int thing : told) if (thing != NOTHING) highest = Math.max(highest, thing);
            if (newWishes.isEmpty() || highest >= many) return NO;
            for (int feeder : newFeeders) if (feeder >= newPosts.size()) return NO;
            things = many;
            kind = newKind;
            asked = newAsked;
            wishes = newWishes;
            worths = newWorths;
            parts = newParts;
            feeders = newFeeders;
            posts = newPosts;
            gifts = new ArrayList<>();
            keptPosts.clear();
            keptGifts.clear();
            return wishes.size();
        }

        private boolean thing(int x) {
            return in(x, 0, things - 1);
        }

        private int value(int wish, int g) {
            return worths.getOrDefault(wish + "," + g, wish == g ? 9 : 0);
        }

        int worth(int wish, int g) {
            return !thing(wish) || !thing(g) && g != NOTHING ? BAD : value(wish, g);
        }

        private static int gives(int kind, List<Integer> row) {
            if (kind == 3) return row.size() < 2 ? NOTHING : row.get(row.size() - 2);
            int span = new int[] {3, 5, 7}[kind];
            int need = new int[] {2, 3, 4}[kind];
            List<Integer> last = row.subList(Math.max(0, row.size() - span), row.size());
            for (int x : last) if (x != NOTHING && Collections.frequency(last, x) >= need) return x;
            return NOTHING;
        }

        private List<Integer> givenTo(int byKind, List<Integer> comers) {
            List<Integer> row = new ArrayList<>(asked), all = new ArrayList<>();
            for (int wish : comers) {
                row.add(wish);
                all.add(gives(byKind, row));
            }
            return all;
        }

        int given(int i) {
            return in(i, 0, wishes.size() - 1) ? givenTo(kind, wishes).get(i) : BAD;
        }

        int have() {
            List<Integer> given = givenTo(kind, wishes);
            int many = 0;
            for (int i = 0; i < wishes.size(); i++) if (given.get(i).equals(wishes.get(i))) many++;
            return many;
        }

        int other(int byKind) {
            if (!in(byKind, 0, 3)) return BAD;
            List<Integer> here = givenTo(kind, wishes), there = givenTo(byKind, wishes);
            int many = 0;
            for (int i = 0; i < wishes.size(); i++) if (!here.get(i).equals(there.get(i))) many++;
            return many;
        }

        private boolean set(int set) {
            return in(set, 0, (1 << wishes.size()) - 1);
        }

        private int bestHave;
        private List<Integer> bestOrder;

        private void tryOrders(int set, List<Integer> come) {
            if (come.size() == wishes.size()) {
                List<Integer> row = new ArrayList<>();
                for (int who : come) row.add(wishes.get(who));
                List<Integer> given = givenTo(kind, row);
                int many = 0;
                for (int i = 0; i < row.size(); i++) {
                    if (given.get(i).equals(row.get(i))) many++;
                    else if ((set >> come.get(i) & 1) == 1) return;
                }
                if (many > bestHave) {
                    bestHave = many;
                    bestOrder = new ArrayList<>(come);
                }
                return;
            }
            for (int who = 0; who < wishes.size(); who++) {
                if (come.contains(who)) continue;
                come.add(who);
                tryOrders(set, come);
                come.remove(come.size() - 1);
            }
        }

        int order(int set, int i) {
            if (!set(set) || !in(i, -1, wishes.size() - 1)) return BAD;
            if (kind == 1 || kind == 2) return NO;
            bestHave = -1;
            bestOrder = null;
            tryOrders(set, new ArrayList<>());
            if (bestOrder == null) return NONE;
            return i == -1 ? bestHave : bestOrder.get(i);
        }

        /** Rows in their order, by an ask of the queue ahead of a stranger's like one; {wish, ahead} each. */
        private List<int[]> tryStrangers(int set, int left, int k, List<Integer> row, List<int[]> come) {
            if (k == wishes.size()) return left == 0 ? new ArrayList<>(come) : null;
            for (int ask = 0; ask < things; ask++) {
                row.add(ask);
                List<int[]> found = null;
                if (ask == wishes.get(k) && ((set >> k & 1) == 0 || gives(kind, row) == ask)) {
                    found = tryStrangers(set, left, k + 1, row, come);
                }
                if (found == null && left > 0) {
                    come.add(new int[] {ask, k});
                    found = tryStrangers(set, left - 1, k, row, come);
                    come.remove(come.size() - 1);
                }
                row.remove(row.size() - 1);
                if (found != null) return found;
            }
            return null;
        }

        private List<int[]> fewestStrangers(int set) {
            for (int many = 0; many <= 12; many++) {
                List<int[]> found = tryStrangers(set, many, 0, new ArrayList<>(asked), new ArrayList<>());
                if (found != null) return found;
            }
            return null;
        }

        int strangers(int set, int i) {
            if (!set(set) || !in(i, -1, 11)) return BAD;
            if (kind == 1 || kind == 2) return NO;
            List<int[]> found = fewestStrangers(set);
            if (found == null || i >= found.size()) return NONE;
            return i == -1 ? found.size() : found.get(i)[0];
        }

        int ahead(int set, int i) {
            if (!set(set) || !in(i, 0, 11)) return BAD;
            if (kind == 1 || kind == 2) return NO;
            List<int[]> found = fewestStrangers(set);
            return found == null || i >= found.size() ? NONE : found.get(i)[1];
        }

        private List<int[]> looking() {
            List<Integer> row = new ArrayList<>(asked);
            List<int[]> all = new ArrayList<>();
            for (int wish : wishes) {
                int[] had = new int[things];
                int most = -1;
                for (int ask = 0; ask < things; ask++) {
                    row.add(ask);
                    had[ask] = gives(kind, row);
                    row.remove(row.size() - 1);
                    most = Math.max(most, value(wish, had[ask]));
                }
                int chosen = wish;
                if (value(wish, had[wish]) != most) {
                    chosen = 0;
                    while (value(wish, had[chosen]) != most) chosen++;
                }
                row.add(chosen);
                all.add(new int[] {chosen, had[chosen]});
            }
            return all;
        }

        int asks(int i, int what) {
            return in(i, 0, wishes.size() - 1) && in(what, 0, 1) ? looking().get(i)[what] : BAD;
        }

        int otherwise() {
            int many = 0;
            for (int i = 0; i < wishes.size(); i++) if (looking().get(i)[0] != wishes.get(i)) many++;
            return many;
        }

        private boolean wants(int i, int mine, int theirs) {
            return value(wishes.get(i), theirs) > value(wishes.get(i), mine);
        }

        int swaps(int i) {
            if (!in(i, -1, wishes.size() - 1)) return BAD;
            List<Integer> has = givenTo(kind, wishes);
            int often = 0;
            boolean again = true;
            while (again) {
                again = false;
                for (int a = 0; a < has.size() && !again; a++) {
                    for (int b = a + 1; b < has.size() && !again; b++) {
                        if (wants(a, has.get(a), has.get(b)) && wants(b, has.get(b), has.get(a))) {
                            Collections.swap(has, a, b);
                            often++;
                            again = true;
                        }
                    }
                }
            }
            return i == -1 ? often : has.get(i);
        }

        int gift(int g) {
            if (!thing(g) && g != NOTHING) return BAD;
            if (gifts.size() == 10) return FULL;
            gifts.add(g);
            return gifts.size();
        }

        int noGifts() {
            int were = gifts.size();
            gifts.clear();
            return were;
        }

        private void allRows(List<Integer> row, List<List<Integer>> found) {
            if (row.size() == gifts.size()) {
                if (givenTo(kind, row).equals(gifts)) found.add(new ArrayList<>(row));
                return;
            }
            for (int wish = 0; wish < things; wish++) {
                if (parts.getOrDefault(wish, 1) == 0) continue;
                row.add(wish);
                allRows(row, found);
                row.remove(row.size() - 1);
            }
        }

        private List<List<Integer>> allRows() {
            List<List<Integer>> found = new ArrayList<>();
            allRows(new ArrayList<>(), found);
            return found;
        }

        private long weight(List<Integer> row) {
            long weight = 1;
            for (int wish : row) weight *= parts.getOrDefault(wish, 1);
            return weight;
        }

        long rows(int what) {
            if (!in(what, 0, 1)) return BAD;
            if (kind == 1 || kind == 2) return NO;
            List<List<Integer>> all = allRows();
            return what == 0 ? all.size() : all.stream().mapToLong(this::weight).sum();
        }

        long odds(int i, int x, int part) {
            if (!in(i, 0, gifts.size() - 1) || !thing(x) || !in(part, 0, 1)) return BAD;
            if (kind == 1 || kind == 2) return NO;
            List<List<Integer>> all = allRows();
            if (all.isEmpty()) return NONE;
            long below = all.stream().mapToLong(this::weight).sum();
            long above = all.stream().filter(row -> row.get(i) == x).mapToLong(this::weight).sum();
            long shared = java.math.BigInteger.valueOf(above).gcd(java.math.BigInteger.valueOf(below)).longValue();
            return (part == 0 ? above : below) / shared;
        }

        int likeliest(int i) {
            if (!in(i, 0, gifts.size() - 1)) return BAD;
            if (kind == 1 || kind == 2) return NO;
            List<Integer> best = null;
            for (List<Integer> row : allRows()) if (best == null || weight(row) > weight(best)) best = row;
            return best == null ? NONE : best.get(i);
        }

        int post(int p, int what) {
            if (!in(p, 0, posts.size() - 1) || !in(what, 0, 3)) return BAD;
            return what == 0 ? feeders.get(p) : posts.get(p)[what - 1];
        }

        private List<int[]> next(List<int[]> state) {
            List<int[]> then = new ArrayList<>();
            for (int p = 0; p < state.size(); p++) {
                int ask = state.get(feeders.get(p))[2];
                int a = state.get(p)[0], b = state.get(p)[1];
                then.add(new int[] {b, ask, gives(0, List.of(a, b, ask))});
            }
            return then;
        }

        int round() {
            if (posts.isEmpty()) return NO;
            posts = next(posts);
            return (int) posts.stream().filter(p -> p[2] != NOTHING).count();
        }

        private static String told(List<int[]> state) {
            StringBuilder all = new StringBuilder();
            for (int[] post : state) all.append(Arrays.toString(post));
            return all.toString();
        }

        int ring(int what) {
            if (!in(what, 0, 1)) return BAD;
            if (posts.isEmpty()) return NO;
            List<String> seen = new ArrayList<>();
            List<int[]> state = posts;
            for (int rounds = 0; rounds <= 600; rounds++) {
                int first = seen.indexOf(told(state));
                if (first >= 0) return what == 0 ? first : rounds - first;
                seen.add(told(state));
                state = next(state);
            }
            return NONE;
        }

        private long countAhead(List<int[]> state, int p) {
            if (p == posts.size()) return told(next(state)).equals(told(posts)) ? 1 : 0;
            long many = 0;
            for (int code = 0; code < 343; code++) {
                int[] post = {code / 49, code / 7 % 7, code % 7};
                boolean may = true;
                for (int x : post) may &= x < things || x == NOTHING;
                if (!may) continue;
                state.add(post);
                many += countAhead(state, p + 1);
                state.remove(state.size() - 1);
            }
            return many;
        }

        long before() {
            return posts.isEmpty() ? NO : countAhead(new ArrayList<>(), 0);
        }

        int keep() {
            if (keptPosts.size() == 2) return FULL;
            keptPosts.push(posts);
            keptGifts.push(new ArrayList<>(gifts));
            return keptPosts.size();
        }

        int back() {
            if (keptPosts.isEmpty()) return NO;
            posts = keptPosts.pop();
            gifts = keptGifts.pop();
            return keptPosts.size();
        }

        int count(int what) {
            int[] all = {wishes.size(), things, asked.size(), posts.size(), gifts.size(), text.length(), keptPosts.size(), kind};
            return in(what, 0, 7) ? all[what] : BAD;
        }
    }

    private final Random random;
    private final LastThree program = new LastThree();
    private final Model model = new Model();
    private final StringBuilder log = new StringBuilder();
    private int calls = 0;
    private boolean wrong = false;

    private PlainModelTest(long seed) {
        random = new Random(seed);
    }

    private void due(String call, long got, long want) {
        calls++;
        log.append(call).append(" = ").append(got).append('\n');
        if (got != want) {
            wrong = true;
            log.append("  due is ").append(want).append(", of the text ").append(model.text).append('\n');
        }
    }

    /** Mostly a number that may be, now and then one at or behind the edge. */
    private int around(int low, int high) {
        if (random.nextInt(12) == 0) {
            int[] edges = {low - 1, high + 1, low - 2, high + 2, Integer.MIN_VALUE, Integer.MAX_VALUE, -1, 6};
            return edges[random.nextInt(edges.length)];
        }
        return high < low ? low : low + random.nextInt(high - low + 1);
    }

    private void put(String text) {
        int at = 0;
        while (at < text.length()) {
            int n = Math.min(text.length() - at, 1 + random.nextInt(8));
            long v = random.nextLong();
            for (int i = 0; i < n; i++) v = v << 8 | text.charAt(at + i);
            due("write(" + n + ", " + v + ")", program.write(n, v), model.write(n, v));
            at += n;
        }
    }

    private int sign(int things) {
        int x = random.nextInt(things + 1);
        return x == things ? NOTHING : x;
    }

    private String drawText(boolean large) {
        int things = 2 + random.nextInt(large ? 5 : 3);
        List<String> items = new ArrayList<>();
        int kind = random.nextInt(6);
        items.add("m" + (kind < 3 ? 0 : kind < 5 ? 3 : 1 + random.nextInt(2)) + ";");
        int queue = large ? 10 : 1 + random.nextInt(6);
        for (int i = 0; i < queue; i++) items.add("q" + random.nextInt(things) + ";");
        int asked = random.nextInt(7);
        for (int i = 0; i < asked; i++) items.add("b" + random.nextInt(things) + ";");
        int values = random.nextInt(12);
        for (int i = 0; i < values; i++) {
            items.add("v" + random.nextInt(things) + "," + sign(things) + "," + random.nextInt(10) + ";");
        }
        int shares = random.nextInt(5);
        for (int i = 0; i < shares; i++) items.add("c" + random.nextInt(things) + "," + random.nextInt(10) + ";");
        int posts = large ? random.nextInt(7) : random.nextInt(things == 2 ? 4 : 3);
        for (int i = 0; i < posts; i++) {
            items.add("p" + random.nextInt(posts) + "," + sign(things) + "," + sign(things) + "," + sign(things) + ";");
        }
        Collections.shuffle(items, random);
        items.add(random.nextInt(items.size() + 1), "t" + things + ";");
        return String.join("", items);
    }

    private String spoil(String text) {
        StringBuilder spoilt = new StringBuilder(text);
        String signs = "tmbqvcp,;0123456789x \u00ff";
        int times = 1 + random.nextInt(2);
        for (int i = 0; i < times; i++) {
            int at = random.nextInt(spoilt.length());
            char sign = signs.charAt(random.nextInt(signs.length()));
            switch (random.nextInt(3)) {
                case 0: spoilt.setCharAt(at, sign); break;
                case 1: spoilt.insert(at, sign); break;
                default: spoilt.deleteCharAt(at);
            }
            if (spoilt.length() == 0) spoilt.append(sign);
        }
        return spoilt.toString();
    }

    private void layText(boolean large) {
        due("wipe()", program.wipe(), model.wipe());
        String text = drawText(large);
        if (random.nextInt(4) == 0) {
            put(spoil(text));
            due("fault()", program.fault(), model.fault());
            if (small(model.text) || model.fault() != NONE) due("lay()", program.lay(), model.lay());
            due("wipe()", program.wipe(), model.wipe());
        }
        put(text);
        due("fault()", program.fault(), model.fault());
        due("lay()", program.lay(), model.lay());
    }

    /** What the model can try through in time. */
    private static boolean small(String text) {
        return text.chars().filter(c -> c == 'q').count() <= 6 && text.chars().filter(c -> c == 'p').count() <= 2;
    }

    private void callQueue(boolean large) {
        int n = model.wishes.size();
        int set = random.nextInt(3) == 0 ? around(0, (1 << n) - 1) : around(0, (1 << n) - 1) & around(0, (1 << n) - 1);
        int i = around(-1, n - 1);
        switch (random.nextInt(9)) {
            case 0: due("given(" + i + ")", program.given(i), model.given(i)); break;
            case 1: due("have()", program.have(), model.have()); break;
            case 2: int k = around(0, 3); due("other(" + k + ")", program.other(k), model.other(k)); break;
            case 3: if (!large) due("order(" + set + ", " + i + ")", program.order(set, i), model.order(set, i)); break;
            case 4: if (!large) due("strangers(" + set + ", " + i + ")", program.strangers(set, i), model.strangers(set, i)); break;
            case 5: if (!large) due("ahead(" + set + ", " + i + ")", program.ahead(set, i), model.ahead(set, i)); break;
            case 6: int what = around(0, 1); due("asks(" + i + ", " + what + ")", program.asks(i, what), model.asks(i, what)); break;
            case 7: due("otherwise()", program.otherwise(), model.otherwise()); break;
            default: due("swaps(" + i + ")", program.swaps(i), model.swaps(i));
        }
    }

    /** A gift that was likely given, so that there are rows often. */
    private int likelyGift() {
        List<Integer> row = new ArrayList<>(model.asked);
        for (int i = 0; i <= model.gifts.size(); i++) row.add(random.nextInt(model.things));
        return random.nextInt(3) == 0 ? around(0, 6) : random.nextBoolean() ? NOTHING : Model.gives(model.kind, row);
    }

    private void callGifts() {
        int i = around(0, model.gifts.size() - 1);
        int x = around(0, model.things - 1);
        int part = around(0, 1);
        switch (random.nextInt(8)) {
            case 0: case 1: case 2:
                if (model.gifts.size() >= (model.things <= 3 ? 8 : 6)) break;
                int g = likelyGift();
                due("gift(" + g + ")", program.gift(g), model.gift(g));
                break;
            case 3:
                if (random.nextInt(4) == 0) due("noGifts()", program.noGifts(), model.noGifts());
                break;
            case 4: due("rows(" + part + ")", program.rows(part), model.rows(part)); break;
            case 5: case 6:
                due("odds(" + i + ", " + x + ", " + part + ")", program.odds(i, x, part), model.odds(i, x, part));
                break;
            default: due("likeliest(" + i + ")", program.likeliest(i), model.likeliest(i));
        }
    }

    private void callNet(boolean large) {
        switch (random.nextInt(8)) {
            case 0: case 1:
                int p = around(0, model.posts.size() - 1);
                int what = around(0, 3);
                due("post(" + p + ", " + what + ")", program.post(p, what), model.post(p, what));
                break;
            case 2: due("round()", program.round(), model.round()); break;
            case 3: int part = around(0, 1); due("ring(" + part + ")", program.ring(part), model.ring(part)); break;
            case 4: if (!large) due("before()", program.before(), model.before()); break;
            case 5: due("keep()", program.keep(), model.keep()); break;
            case 6: due("back()", program.back(), model.back()); break;
            default: int which = around(0, 7); due("count(" + which + ")", program.count(which), model.count(which));
        }
    }

    private boolean run(boolean large) {
        for (int lays = 0; lays < 3 && !wrong; lays++) {
            layText(large);
            for (int i = 0; i < 60 && !wrong; i++) {
                switch (random.nextInt(3)) {
                    case 0: callQueue(large); break;
                    case 1: if (!large) callGifts(); break;
                    default: callNet(large);
                }
                int w = around(0, 5), g = around(0, 6);
                if (i % 8 == 0) due("worth(" + w + ", " + g + ")", program.worth(w, g), model.worth(w, g));
            }
        }
        if (wrong) System.out.println(log);
        return !wrong;
    }

    /** Few calls at the greatest sizes that the model can try through. */
    private boolean runWide() {
        put("t3;q0;q1;q2;q1;q0;q2;q2;q0;b1;b" + random.nextInt(3) + ";m" + (random.nextBoolean() ? 0 : 3) + ";");
        due("lay()", program.lay(), model.lay());
        int set = random.nextInt(256) & random.nextInt(256) & random.nextInt(256);
        for (int i = -1; i < 8; i += 3) {
            due("order(" + set + ", " + i + ")", program.order(set, i), model.order(set, i));
        }
        if (wrong) System.out.println(log);
        return !wrong;
    }

    public static void main(String[] args) {
        int failed = 0;
        long calls = 0;
        for (int seed = 0; seed < 400 && failed < 3; seed++) {
            PlainModelTest test = new PlainModelTest(seed);
            if (!test.run(seed % 4 == 3)) failed++;
            calls += test.calls;
        }
        for (int seed = 0; seed < 12 && failed < 3; seed++) {
            PlainModelTest test = new PlainModelTest(1000 + seed);
            if (!test.runWide()) failed++;
            calls += test.calls;
        }
        System.out.println(calls + " calls against the plain model, " + failed + " runs with a wrong answer");
        if (failed != 0) System.exit(1);
    }
}
