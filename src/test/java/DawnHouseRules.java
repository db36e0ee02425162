import java.io.IOException;
import java.lang.reflect.Constructor;
import java.lang.reflect.Field;
import java.lang.reflect.Method;
import java.lang.reflect.Modifier;
import java.nio.charset.StandardCharsets;
import java.nio.file.Files;
import java.nio.file.Path;
import java.util.ArrayList;
import java.util.Arrays;
import java.util.List;
import java.util.Set;
import java.util.TreeSet;

/** The face of the document, and what a test can see of LANGUAGE.md's rules. Runs in the project's folder. */
public final class DawnHouseRules {
    private static final String[] FACE = {
        "int feed(int, int, int, int, int)", "int back(int)", "int read()", "int place()",
        "boolean span(int, int, int)", "int row(int, int, int)", "int land(int)", "int reader(int)",
        "boolean rights(int, int)", "boolean hold(int, boolean)", "boolean reads(int, int)",
        "boolean hosts(int)", "int tick()", "int plan()", "int order(int)", "int foreseen(int)",
        "int sure(int)", "int step(int, int)", "long value(int, int)", "long sent(int, int, int)",
        "int marks(int, int)", "int table(int, int)", "int count(int)"};
    // The rule, and a member that breaks it: what is not seen in these would not be seen in the class.
    private static final String[] BREAKS = {
        "2:class A { }",
        "2:static void m() { Runnable r = () -> { }; }",
        "2:static void m() { Runnable r = DawnHouse::m; }",
        "2:static void m() { class A { } }",
        "2:static Object x = null; DawnHouse() { x = new Object() { }; }",
        "3:int[][] x = null;",
        "3:double x = 0;",
        "3:Integer x = 0;",
        "3:java.util.ArrayList<Integer> x = null;",
        "4:static int m() { return Integer.MAX_VALUE; }",
        "4:static int m(int a) { return Math.addExact(a, a); }",
        "4:static long m() { return System.nanoTime(); }",
        "4:DawnHouse() { new Object(); }",
        "5:static int x = 0;",
        "5:static final int[] X = {1};",
        "5:{ int x = 0; }",
        "6:static void m(RuntimeException e) { throw e; }",
        "6:static void m() { try { m(); } finally { } }",
        "6:static void m(int a) { assert a > 0; }",
        "6:synchronized void m() { }",
        "6:static boolean m(int[] a, int[] b) { return a == b; }",
        "6:static String m(Object a) { return (String) a; }",
        "7:static int m(int a, int b) { return a / b; }",
        "7:static int m(int a, int b) { a %= b; return a; }",
        "8:private static int m(int a) { return a < 1 ? 0 : m(a - 1); }",
        "9:static void m(boolean a) { while (a) { } }",
        "9:static void m(int a) { int i = 0; while (i < a) { a--; } }",
        "9:static void m(int a) { for (int i = 0; i < a || a > 3; i++) { } }",
        "9:static void m(int a) { for (;;) { } }",
        "10:static Object m(int a) { return a + \"\"; }",
        "11:static void m(int a, int b, int c, int d, int e, int f, int g, int h) { }",
        "11:int a, b, c, d, e, f, g, h, i, j, k, l, m, n, o, p, q, r, s, t, u;",
        "11:static void m() {" + "\n".repeat(60) + "}",
        "11:static void a() { b(); } static void b() { c(); } static void c() { d(); } static void d() { e(); }"
            + " static void e() { f(); } static void f() { g(); } static void g() { h(); } static void h() { Math.max(1, 2); }",
        "11:" + "static class A# { }".repeat(12),
        "12:static int[] m(int a) { return new int[9]; }",
        "12:static DawnHouse m() { return new DawnHouse(); }"};
    private static int wrong = 0;

    public static void main(String[] args) throws IOException {
        face();
        must(Rules.faultsOf("final class DawnHouse { int x; }").isEmpty(), "a plain class keeps the rules");
        for (String rule : BREAKS) {
            seesBreak(rule);
        }
        String source = Files.readString(Path.of("src/main/java/DawnHouse.java"), StandardCharsets.UTF_8);
        for (String fault : Rules.faultsOf(source)) {
            must(false, "rule " + fault);
        }
        System.out.println(wrong == 0 ? "the face and the rules are kept" : wrong + " things are not as the rules want");
        if (wrong != 0) {
            System.exit(1);
        }
    }

    private static void must(boolean holds, String what) {
        if (!holds) {
            wrong++;
            System.out.println("not so: " + what);
        }
    }

    private static void seesBreak(String rule) throws IOException {
        int colon = rule.indexOf(':');
        StringBuilder members = new StringBuilder();
        for (char c : rule.substring(colon + 1).toCharArray()) {
            members.append(c == '#' ? String.valueOf(members.length()) : String.valueOf(c));
        }
        List<String> faults = Rules.faultsOf("final class DawnHouse { " + members + " }");
        boolean seen = faults.stream().anyMatch(f -> f.startsWith(rule.substring(0, colon + 1)));
        must(seen, "a break of rule " + rule + " is seen: " + faults);
    }

    private static String told(Method m) {
        StringBuilder text = new StringBuilder(m.getReturnType() + " " + m.getName() + "(");
        for (int i = 0; i < m.getParameterCount(); i++) {
            text.append(i > 0 ? ", " : "").append(m.getParameterTypes()[i]);
        }
        return text.append(")").toString();
    }

    private static void face() {
        Class<?> c = DawnHouse.class;
        must(Modifier.isPublic(c.getModifiers()) && Modifier.isFinal(c.getModifiers()), "rule 1: public and final");
        Set<String> told = new TreeSet<>();
        Set<String> names = new TreeSet<>();
        for (Method m : c.getDeclaredMethods()) {
            if (!Modifier.isPrivate(m.getModifiers())) {
                must(Modifier.isPublic(m.getModifiers()) && !Modifier.isStatic(m.getModifiers()), "rule 1: " + m);
                told.add(told(m));
                names.add(m.getName());
            }
        }
        must(told.equals(new TreeSet<>(Arrays.asList(FACE))), "the face: " + told);
        List<Class<?>> all = new ArrayList<>(Arrays.asList(c.getDeclaredClasses()));
        all.add(c);
        for (Class<?> inside : all) {
            for (Method m : inside.getDeclaredMethods()) {
                must(Modifier.isPublic(m.getModifiers()) || !names.contains(m.getName()), "rule 1: a name of the face: " + m);
            }
        }
        Constructor<?>[] made = c.getDeclaredConstructors();
        must(made.length == 1 && Modifier.isPublic(made[0].getModifiers()) && made[0].getParameterCount() == 0, "the constructor");
        for (Field f : c.getDeclaredFields()) {
            must(Modifier.isPrivate(f.getModifiers()) || f.getName().equals("NONE"), "rule 1: " + f);
        }
    }
}
