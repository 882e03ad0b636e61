import java.util.ArrayList;
import java.util.List;
import java.util.function.Supplier;
import java.util.function.ToLongFunction;

/** One object with its calls told and counted; what the tests of edges share. */
final class Run {
    static final int BAD = -1, NO = -2, FULL = -3, NONE = -4, NOTHING = 6;
    static final int LEAST = Integer.MIN_VALUE, MOST = Integer.MAX_VALUE;
    /** Behind these calls the document leaves every answer free. */
    private static final int MOST_CALLS = 512;

    private static String sentence = "";
    private static int sentences = 0;
    private static int wrong = 0;

    private final LastThree x = new LastThree();
    private final StringBuilder texts = new StringBuilder();
    private int calls = 0;
    private String last = "new LastThree()";

    // ---- sentences and their answers

    /** The document's words that are tested from here on. */
    static void says(String words) {
        sentence = words;
        sentences++;
    }

    static void hold(boolean holds, String what) {
        if (!holds) {
            wrong++;
            System.out.println("\"" + sentence + "\": " + what);
        }
    }

    static void end() {
        System.out.println(sentences + " sentences, " + wrong + " answers are not as due");
        if (wrong != 0) System.exit(1);
    }

    /** The answer of the call just made. */
    void due(long got, long want) {
        hold(got == want, last + " answered " + got + ", due is " + want + "; written: " + texts);
    }

    private long told(String call, long answer) {
        calls++;
        last = call;
        hold(calls <= MOST_CALLS, "a test made more than " + MOST_CALLS + " calls");
        return answer;
    }

    // ---- texts

    static String times(String item, int many) {
        return item.repeat(Math.max(0, many));
    }

    /** A text without fault that is just so many bytes long: one wish, then things told again and again. */
    static String textOf(int bytes) {
        StringBuilder all = new StringBuilder("q1;");
        while (bytes - all.length() > 5) all.append("t4;");
        int left = bytes - all.length();
        return all.append(left == 5 ? "t004;" : left == 4 ? "t04;" : left == 3 ? "t4;" : "").toString();
    }

    static Run fresh() {
        return new Run();
    }

    static Run laid(String text) {
        Run run = new Run().put(text);
        long many = run.lay();
        hold(many >= 1, "lay() answered " + many + " for " + text);
        return run;
    }

    static Run written(String text) {
        return new Run().put(text);
    }

    /** Writes up to eight bytes a call. */
    Run put(String text) {
        for (int at = 0; at < text.length(); at += 8) {
            int n = Math.min(8, text.length() - at);
            long v = 0;
            for (int i = 0; i < n; i++) v = v << 8 | text.charAt(at + i);
            long length = write(n, v);
            hold(length > 0, last + " answered " + length);
        }
        texts.append(text);
        return this;
    }

    Run instead(String text) {
        wipe();
        texts.append(" | ");
        return put(text);
    }

    Run seen(int... gifts) {
        for (int g : gifts) hold(gift(g) > 0, last + " was refused");
        return this;
    }

    static void dueFault(String text, long want) {
        Run run = written(text);
        run.due(run.fault(), want);
        if (want != NONE) run.due(run.lay(), NO);
    }

    static void dueLay(String text, long want) {
        Run run = written(text);
        run.due(run.fault(), NONE);
        run.due(run.lay(), want);
    }

    // ---- calls that change nothing

    /** The call answers so, and other calls cannot tell the object from one on which it was not made. */
    static void changesNothing(Supplier<Run> make, ToLongFunction<Run> call, long want) {
        Run tried = make.get();
        Run left = make.get();
        tried.due(call.applyAsLong(tried), want);
        String made = tried.last;
        List<String> here = tried.tellAll();
        List<String> there = left.tellAll();
        hold(here.size() == there.size(), "behind " + made + " there is more or less to tell");
        for (int i = 0; i < Math.min(here.size(), there.size()); i++) {
            if (!here.get(i).equals(there.get(i))) {
                hold(false, "behind " + made + ": " + here.get(i) + ", without it " + there.get(i));
                break;
            }
        }
    }

    /** All that other calls tell: the laid, the net, what is kept, and the text, by laying it. */
    private List<String> tellAll() {
        List<String> all = new ArrayList<>();
        tellLaid(all);
        tellNet(all);
        for (int i = 0; i < 3; i++) {
            note(all, back());
            tellNet(all);
        }
        note(all, fault());
        note(all, lay());
        tellLaid(all);
        tellNet(all);
        note(all, wipe());
        return all;
    }

    private void note(List<String> all, long answer) {
        all.add(last + " = " + answer);
    }

    private void tellLaid(List<String> all) {
        for (int what = 0; what < 8; what++) note(all, count(what));
        long queue = count(0);
        long things = count(1);
        for (int w = 0; w < things; w++) {
            for (int g = 0; g < things; g++) note(all, worth(w, g));
            note(all, worth(w, NOTHING));
        }
        for (int i = 0; i < queue; i++) {
            note(all, given(i));
            note(all, asks(i, 0));
            note(all, swaps(i));
        }
        for (int kind = 0; kind < 4; kind++) note(all, other(kind));
        int everyone = (1 << queue) - 1;
        for (int i = -1; i < queue; i++) note(all, order(0, i));
        for (int i = -1; i < queue; i++) note(all, strangers(everyone, i));
        note(all, ahead(everyone, 0));
    }

    private void tellNet(List<String> all) {
        long posts = count(3);
        for (int p = 0; p < posts; p++) {
            for (int what = 0; what < 4; what++) note(all, post(p, what));
        }
        note(all, ring(0));
        note(all, before());
        long gifts = count(4);
        note(all, gifts);
        note(all, rows(0));
        note(all, rows(1));
        for (int i = 0; i < gifts; i++) note(all, likeliest(i));
    }

    // ---- the calls

    long write(int n, long v) {
        return told("write(" + n + ", " + v + ")", x.write(n, v));
    }

    long wipe() {
        return told("wipe()", x.wipe());
    }

    long fault() {
        return told("fault()", x.fault());
    }

    long lay() {
        return told("lay()", x.lay());
    }

    long worth(int wish, int g) {
        return told("worth(" + wish + ", " + g + ")", x.worth(wish, g));
    }

    long given(int i) {
        return told("given(" + i + ")", x.given(i));
    }

    long have() {
        return told("have()", x.have());
    }

    long other(int kind) {
        return told("other(" + kind + ")", x.other(kind));
    }

    long order(int set, int i) {
        return told("order(" + set + ", " + i + ")", x.order(set, i));
    }

    long strangers(int set, int i) {
        return told("strangers(" + set + ", " + i + ")", x.strangers(set, i));
    }

    long ahead(int set, int i) {
        return told("ahead(" + set + ", " + i + ")", x.ahead(set, i));
    }

    long asks(int i, int what) {
        return told("asks(" + i + ", " + what + ")", x.asks(i, what));
    }

    long otherwise() {
        return told("otherwise()", x.otherwise());
    }

    long swaps(int i) {
        return told("swaps(" + i + ")", x.swaps(i));
    }

    long gift(int g) {
        return told("gift(" + g + ")", x.gift(g));
    }

    long noGifts() {
        return told("noGifts()", x.noGifts());
    }

    long rows(int what) {
        return told("rows(" + what + ")", x.rows(what));
    }

    long odds(int i, int thing, int part) {
        return told("odds(" + i + ", " + thing + ", " + part + ")", x.odds(i, thing, part));
    }

    long likeliest(int i) {
        return told("likeliest(" + i + ")", x.likeliest(i));
    }

    long post(int p, int what) {
        return told("post(" + p + ", " + what + ")", x.post(p, what));
    }

    long round() {
        return told("round()", x.round());
    }

    long ring(int what) {
        return told("ring(" + what + ")", x.ring(what));
    }

    long before() {
        return told("before()", x.before());
    }

    long keep() {
        return told("keep()", x.keep());
    }

    long back() {
        return told("back()", x.back());
    }

    long count(int what) {
        return told("count(" + what + ")", x.count(what));
    }
}
