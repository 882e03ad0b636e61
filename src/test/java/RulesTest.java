import java.lang.management.ManagementFactory;
import java.lang.reflect.Constructor;
import java.lang.reflect.Field;
import java.lang.reflect.Method;
import java.lang.reflect.Modifier;
import java.nio.file.Files;
import java.nio.file.Path;
import java.util.HashSet;
import java.util.Set;
import java.util.TreeSet;
import java.util.regex.Matcher;
import java.util.regex.Pattern;

/** The face of the class, words that LANGUAGE.md leaves out, and that calls make nothing new. */
public final class RulesTest {
    private static final String[] FACE = {
        "int write(int,long)", "int wipe()", "int fault()", "int lay()", "int worth(int,int)", "int given(int)",
        "int have()", "int other(int)", "int order(int,int)", "int strangers(int,int)", "int ahead(int,int)",
        "int asks(int,int)", "int otherwise()", "int swaps(int)", "int gift(int)", "int noGifts()", "long rows(int)",
        "long odds(int,int,int)", "int likeliest(int)", "int post(int,int)", "int round()", "int ring(int)",
        "long before()", "int keep()", "int back()", "int count(int)"};
    private static final String[] FORBIDDEN = {
        "throw", "throws", "try", "catch", "synchronized", "assert", "package", "var", "native", "volatile",
        "System\\.(?!arraycopy)", "Math\\.\\w*Exact", "->", "::", "hashCode", "toString", "Thread", "Random", "protected"};
    private static int wrong = 0;

    private static void hold(boolean holds, String what) {
        if (!holds) {
            wrong++;
            System.out.println("not so: " + what);
        }
    }

    private static String signature(Method method) {
        StringBuilder all = new StringBuilder(method.getReturnType().getSimpleName() + " " + method.getName() + "(");
        for (Class<?> type : method.getParameterTypes()) {
            all.append(all.charAt(all.length() - 1) == '(' ? "" : ",").append(type.getSimpleName());
        }
        return all.append(")").toString();
    }

    private static void face() {
        Set<String> due = new TreeSet<>(Set.of(FACE));
        Set<String> names = new HashSet<>();
        Set<String> found = new TreeSet<>();
        for (Method method : LastThree.class.getDeclaredMethods()) {
            if (!Modifier.isPrivate(method.getModifiers()) && !method.isSynthetic()) {
                hold(Modifier.isPublic(method.getModifiers()) && !Modifier.isStatic(method.getModifiers()), method + " is public");
                found.add(signature(method));
                names.add(method.getName());
            }
        }
        hold(due.equals(found), "the methods are " + due + ", found " + found);
        for (Class<?> type : LastThree.class.getDeclaredClasses()) {
            hold(Modifier.isStatic(type.getModifiers()), type + " is static");
            for (Method method : type.getDeclaredMethods()) {
                hold(method.getParameterCount() <= 7, method + " takes seven at most");
                hold(!names.contains(method.getName()), method + " bears no name of a public one");
            }
            hold(type.getDeclaredFields().length <= 24, type + " has few fields");
        }
        hold(LastThree.class.getDeclaredClasses().length < 12, "the file has twelve classes at most");
        for (Method method : LastThree.class.getDeclaredMethods()) {
            hold(method.getParameterCount() <= 7, method + " takes seven at most");
            boolean hidden = Modifier.isPrivate(method.getModifiers());
            hold(!hidden || !names.contains(method.getName()), method + " bears no name of a public one");
        }
        Set<String> constants = new TreeSet<>();
        for (Field field : LastThree.class.getDeclaredFields()) {
            if (!Modifier.isPrivate(field.getModifiers())) constants.add(field.getName());
            boolean isStatic = Modifier.isStatic(field.getModifiers());
            hold(!isStatic || Modifier.isFinal(field.getModifiers()), field + " is final");
        }
        hold(constants.equals(Set.of("BAD", "NO", "FULL", "NONE")), "the constants, found " + constants);
        hold(LastThree.BAD == -1 && LastThree.NO == -2 && LastThree.FULL == -3 && LastThree.NONE == -4, "their numbers");
        Constructor<?>[] made = LastThree.class.getDeclaredConstructors();
        hold(made.length == 1 && made[0].getParameterCount() == 0 && Modifier.isPublic(made[0].getModifiers()), "one constructor");
        int modifiers = LastThree.class.getModifiers();
        hold(Modifier.isPublic(modifiers) && Modifier.isFinal(modifiers), "the class is public and final");
    }

    private static void source(String path) throws Exception {
        String text = Files.readString(Path.of(path));
        hold(text.chars().allMatch(c -> c == '\n' || c >= 32 && c < 127), "plain signs alone");
        String code = text.replaceAll("(?s)/\\*.*?\\*/", "").replaceAll("//[^\\n]*", "");
        for (String word : FORBIDDEN) {
            String bound = Character.isLetter(word.charAt(0)) ? "\\b" : "";
            Matcher matcher = Pattern.compile(bound + word + (word.matches("\\w+") ? bound : "")).matcher(code);
            hold(!matcher.find(), "no " + word + " in " + path);
        }
        Matcher imports = Pattern.compile("(?m)^import .*$").matcher(code);
        while (imports.find()) hold(imports.group().equals("import java.util.Arrays;"), imports.group() + " is allowed");
        shortMethods(code.split("\n"));
    }

    private static void shortMethods(String[] lines) {
        for (int from = 0; from < lines.length; from++) {
            Matcher head = Pattern.compile("( +)(?!.*\\bclass\\b)\\S.*\\) \\{").matcher(lines[from]);
            if (!head.matches() || head.group(1).length() > 8) continue;
            int to = from;
            while (to < lines.length && !lines[to].equals(head.group(1) + "}")) to++;
            hold(to - from <= 60, "a method is short: " + lines[from]);
        }
    }

    private static LastThree dearest() {
        LastThree x = new LastThree();
        String text = "t6;b5;b4;b3;b2;b1;b0;q1;q0;q5;q4;q3;q2;q1;q0;q5;q4;c0,9;c1,9;c2,9;v0,1,5;"
            + "p1,0,2,3;p2,1,3,4;p3,2,4,5;p4,3,5,0;p5,4,0,1;p0,5,1,2;";
        for (int at = 0; at < text.length(); at++) x.write(1, text.charAt(at));
        return x;
    }

    private static long callAll(LastThree x, int set) {
        long sum = x.lay() + x.fault() + x.given(9) + x.have() + x.other(2) + x.order(set, 9) + x.strangers(set, 0);
        sum += x.ahead(set, 0) + x.asks(9, 1) + x.otherwise() + x.swaps(0) + x.gift(6) + x.gift(6) + x.rows(1);
        sum += x.odds(0, 0, 1) + x.likeliest(0) + x.noGifts() + x.post(0, 0) + x.ring(1) + x.round() + x.before();
        return sum + x.keep() + x.back() + x.count(0) + x.worth(0, 0);
    }

    /** All calls of a run share one room, so no call may make objects or arrays. */
    private static void room() {
        var threads = (com.sun.management.ThreadMXBean) ManagementFactory.getThreadMXBean();
        if (!threads.isThreadAllocatedMemorySupported()) return;
        LastThree x = dearest();
        long me = Thread.currentThread().getId();
        long sum = callAll(x, 0);
        threads.getThreadAllocatedBytes(me);
        long start = threads.getThreadAllocatedBytes(me);
        for (int set = 0; set < 200; set++) sum += callAll(x, set);
        long used = threads.getThreadAllocatedBytes(me) - start;
        hold(used < 100_000, "5000 calls make nothing new, but " + used + " bytes (" + sum + ")");
        start = threads.getThreadAllocatedBytes(me);
        dearest();
        used = threads.getThreadAllocatedBytes(me) - start;
        hold(used < 100_000, "a new object is small, but takes " + used + " bytes");
    }

    public static void main(String[] args) throws Exception {
        face();
        source(args.length > 0 ? args[0] : "src/main/java/LastThree.java");
        room();
        System.out.println(wrong == 0 ? "the rules are kept" : wrong + " rules are not kept");
        if (wrong != 0) System.exit(1);
    }
}
