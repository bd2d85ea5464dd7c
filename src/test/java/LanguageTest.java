import java.nio.file.Files;
import java.nio.file.Path;
import java.util.List;

/**
 * That the program keeps to the rules of LANGUAGE.md, as far as Rules sees it; that Rules sees what each rule forbids, and
 * lets pass what the rules allow.
 */
public final class LanguageTest {
    private static final Path PROGRAM = Path.of("src/main/java/HedgeChains.java");
    private static final String OPEN = "public final class HedgeChains { public HedgeChains() { } ";
    private static final String CLOSE = " }";

    /** The rule, and what breaks it when it stands in the class. */
    private static final String[][] FORBIDDEN = {
        {"1", "int seen;"},
        {"1", "protected int seen() { return 1; }"},
        {"1", "public int lay() { return 1; } private int lay(int many) { return many; }"},
        {"1", "public static final class Hedge { }"},
        {"2", "private final class Hedge { }"},
        {"2", "private interface Task { int done(); } private Task task() { return () -> 1; }"},
        {"2", "private interface Task { int done(); } private Task task() { return new Task() { public int done() { return 1; } }; }"},
        {"2", "private enum Kind { GAP { }, LAID }"},
        {"2", "private enum Kind { GAP; private double thick; }"},
        {"2", "private void work() { class Hedge { } }"},
        {"3", "private Object hedge;"},
        {"3", "private String[] names;"},
        {"3", "private int[][][] hedges;"},
        {"3", "private java.util.ArrayList<String> names;"},
        {"3", "private double left(double all) { return all % 2; }"},
        {"4", "private int most() { return Integer.MAX_VALUE; }"},
        {"4", "private int sum(int one, int other) { return Math.addExact(one, other); }"},
        {"4", "private double root(double number) { return Math.sqrt(number); }"},
        {"4", "private int number(String text) { return Integer.parseInt(text); }"},
        {"4", "private String small(String text) { return text.trim(); }"},
        {"4", "private void tell() { System.out.println(1); }"},
        {"4", "private long now() { return System.nanoTime(); }"},
        {"4", "private String sign() { return \"\\u00e9\"; }"},
        {"5", "private static int seen = 0;"},
        {"5", "private static final double HALF = 0.5;"},
        {"5", "private static final int[] SEEN = new int[3];"},
        {"5", "private static final int[] SEEN = {1, 2}; private void see() { SEEN[0] = 2; }"},
        {"5", "private static final int SEEN; static { SEEN = 1; }"},
        {"6", "private void fail() { throw null; }"},
        {"6", "private void fail() { try { fail2(); } finally { fail2(); } } private void fail2() { }"},
        {"6", "private void fail() { synchronized (this) { } }"},
        {"6", "private synchronized void fail() { }"},
        {"6", "private void fail(int one) { assert one > 0; }"},
        {"6", "private boolean same(String one, String other) { return one == other; }"},
        {"6", "private boolean same(HedgeChains other) { return other != null && other.equals(this); }"},
        {"8", "public int lay(int many) { return many < 1 ? 0 : lay(many - 1); }"},
        {"9", "private void wait(int many) { for (;;) { if (many > 0) { break; } } }"},
        {"9", "private void wait(int many) { while (true) { if (many > 0) { break; } } }"},
        {"10", "private String both(String one, String other) { return one + other; }"},
        {"11", "private int sum(int a, int b, int c, int d, int e, int f, int g, int h) { return a; }"},
        {"11", "private void lines(int[] a) {" + "\n".repeat(66) + "}"},
        {"11", "private int a() { return b(); } private int b() { return c(); } private int c() { return d(); }"
                + "private int d() { return e(); } private int e() { return f(); } private int f() { return g(); }"
                + "private int g() { return h(); } private int h() { return i(); } private int i() { return 1; }"},
        {"11", "private int a, b, c, d, e, f, g, h, i, j, k, l, m, n, o, p, q, r, s, t, u, v, w;"},
        {"11", "private static class A { } private static class B { } private static class C { } private static class D { }"
                + "private static class E { } private static class F { } private static class G { } private static class H { }"
                + "private static class I { } private static class J { } private static class K { } private static class L { } private static class M { }"},
        {"12", "private static class Hedge { private Hedge() { grow(); } void grow() { } }"},
        {"12", "private static class Hedge { private Hedge(Hedge[] all) { all[0] = this; } }"},
        {"13", "private double any() { return Math.random(); }"},
    };

    private static final String[] ALLOWED = {
        "private static final int[] WEEKS = {1, 2}; private static final String NAME = \"t\"; private int[][] fields;",
        "private record Chain(int kind, int thickness) { } private Chain gap() { return new Chain(2, 0); }",
        "private enum Kind { STANDS(0), LAID(1); private final int number; Kind(int number) { this.number = number; } }"
                + "private static final Kind[] KINDS = Kind.values();",
        "interface Task { int done(int depth); } static final class Lay implements Task { public int done(int depth) {"
                + "return depth < 1 ? 0 : done(depth - 1); } }",
        "private java.util.ArrayList<Integer> list = new java.util.ArrayList<>(); private int first() {"
                + "return list.isEmpty() ? 0 : list.get(0); }",
        "private String text(int many) { StringBuilder all = new StringBuilder(); for (int i = 0; i < many; i++) {"
                + "all.append((char) 233).append(i).append(\"t\"); } return all.toString(); }",
        "private int sum(int[] all) { int sum = 0; for (int each : all.clone()) { sum += Math.floorMod(each, 7); } return sum; }",
        "private static int count(int left) { return left < 1 ? 0 : count(left - 1); }",
        "private int[] copy(int[] all) { int[] copy = java.util.Arrays.copyOf(all, 3); System.arraycopy(all, 0, copy, 0, 1); return copy; }",
    };

    public static void main(String[] args) throws Exception {
        Check check = new Check("LanguageTest");
        check.same("rules that the program does not keep", Rules.broken(Files.readString(PROGRAM)).toString(), "[]");
        for (String[] each : FORBIDDEN) {
            List<String> broken = Rules.broken(OPEN + each[1] + CLOSE);
            check.due("rule " + each[0] + " is seen as broken by " + each[1] + ": " + broken, tells(broken, each[0]) ? 1 : 0, 1);
        }
        for (String each : ALLOWED) {
            check.same("rules that are seen as broken by " + each, Rules.broken(OPEN + each + CLOSE).toString(), "[]");
        }
        check.due("a package line is seen", tells(Rules.broken("package hedges; " + OPEN + CLOSE), "1") ? 1 : 0, 1);
        check.due("a class that is not final is seen", tells(Rules.broken("public class HedgeChains { }"), "1") ? 1 : 0, 1);
        check.due("an import is seen", tells(Rules.broken("import java.util.Map; " + OPEN + CLOSE), "4") ? 1 : 0, 1);
        check.end();
    }

    /** What rule 13 forbids comes out of the library, and is told by rule 4. */
    private static boolean tells(List<String> broken, String rule) {
        String told = rule.equals("13") ? "4" : rule;
        return broken.stream().anyMatch(each -> each.startsWith("rule " + told + ":"));
    }
}
