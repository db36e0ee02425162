import java.lang.reflect.Constructor;
import java.lang.reflect.Field;
import java.lang.reflect.Method;
import java.lang.reflect.Modifier;
import java.nio.charset.StandardCharsets;
import java.nio.file.Files;
import java.nio.file.Path;
import java.util.ArrayList;
import java.util.Arrays;
import java.util.List;
import java.util.Set;
import java.util.TreeSet;
import java.util.regex.Matcher;
import java.util.regex.Pattern;

/** The face of the document, and what a test can see of LANGUAGE.md's rules. Runs in the project's folder. */
public final class DawnHouseRules {
    private static final String[] FACE = {
        "int feed(int, int, int, int, int)", "int back(int)", "int read()", "int place()",
        "boolean span(int, int, int)", "int row(int, int, int)", "int land(int)", "int reader(int)",
        "boolean rights(int, int)", "boolean hold(int, boolean)", "boolean reads(int, int)",
        "boolean hosts(int)", "int tick()", "int plan()", "int order(int)", "int foreseen(int)",
        "int sure(int)", "int step(int, int)", "long value(int, int)", "long sent(int, int, int)",
        "int marks(int, int)", "int table(int, int)", "int count(int)"};
    private static int wrong = 0;

    public static void main(String[] args) throws Exception {
        face();
        classesInside();
        source();
        System.out.println(wrong == 0 ? "the face and the rules are kept" : wrong + " things are not as the rules want");
        if (wrong != 0) {
            System.exit(1);
        }
    }

    private static void must(boolean holds, String what) {
        if (!holds) {
            wrong++;
            System.out.println("not so: " + what);
        }
    }

    private static String told(Method m) {
        StringBuilder text = new StringBuilder(m.getReturnType() + " " + m.getName() + "(");
        for (int i = 0; i < m.getParameterCount(); i++) {
            text.append(i > 0 ? ", " : "").append(m.getParameterTypes()[i]);
        }
        return text.append(")").toString();
    }

    private static void face() {
        Class<?> c = DawnHouse.class;
        must(Modifier.isPublic(c.getModifiers()) && Modifier.isFinal(c.getModifiers()), "rule 1: public and final");
        Set<String> told = new TreeSet<>();
        Set<String> names = new TreeSet<>();
        for (Method m : c.getDeclaredMethods()) {
            if (!Modifier.isPrivate(m.getModifiers())) {
                must(Modifier.isPublic(m.getModifiers()) && !Modifier.isStatic(m.getModifiers()), "rule 1: " + m);
                told.add(told(m));
                names.add(m.getName());
            }
        }
        must(told.equals(new TreeSet<>(Arrays.asList(FACE))), "the face: " + told);
        for (Class<?> inside : allClasses()) {
            for (Method m : inside.getDeclaredMethods()) {
                must(Modifier.isPublic(m.getModifiers()) || !names.contains(m.getName()), "rule 1: a name of the face: " + m);
                must(m.getParameterCount() <= 7, "rule 11: parameters of " + m);
            }
        }
        Constructor<?>[] made = c.getDeclaredConstructors();
        must(made.length == 1 && Modifier.isPublic(made[0].getModifiers()) && made[0].getParameterCount() == 0, "the constructor");
        for (Field f : c.getDeclaredFields()) {
            must(Modifier.isPrivate(f.getModifiers()) || f.getName().equals("NONE"), "rule 1: " + f);
        }
    }

    private static List<Class<?>> allClasses() {
        List<Class<?>> all = new ArrayList<>();
        all.add(DawnHouse.class);
        all.addAll(Arrays.asList(DawnHouse.class.getDeclaredClasses()));
        return all;
    }

    private static void classesInside() {
        must(allClasses().size() <= 12, "rule 11: classes");
        for (Class<?> inside : allClasses()) {
            must(inside == DawnHouse.class || Modifier.isStatic(inside.getModifiers()), "rule 2: " + inside);
            int fields = 0;
            for (Field f : inside.getDeclaredFields()) {
                boolean constant = Modifier.isStatic(f.getModifiers());
                must(!constant || Modifier.isFinal(f.getModifiers()), "rule 5: " + f);
                fields += constant ? 0 : 1;
            }
            must(fields <= 20, "rule 11: fields of " + inside);
        }
    }

    private static void source() throws Exception {
        String text = Files.readString(Path.of("src/main/java/DawnHouse.java"), StandardCharsets.UTF_8);
        String code = text.replaceAll("(?s)/\\*.*?\\*/", "").replaceAll("//[^\n]*", "").replaceAll("'.'", "' '");
        must(!code.contains("package ") && !code.contains("import "), "one file without a package and a library");
        for (String word : "throw throws try catch finally synchronized assert volatile transient native instanceof".split(" ")) {
            must(!Pattern.compile("\\b" + word + "\\b").matcher(code).find(), "rule 6: the word " + word);
        }
        must(!code.contains("->") && !code.contains("::") && !code.contains("\""), "rule 2: no lambda, no method reference, no text");
        must(!code.contains("/") && !code.contains("%"), "rule 7: no division");
        Matcher made = Pattern.compile("(?m)^( *)[^\n]*\\bnew\\b[^\n]*$").matcher(code);
        while (made.find()) {
            boolean field = made.group().contains("final") && made.group(1).length() == 8;
            boolean constructor = made.group(1).length() == 8 && made.start() < code.indexOf("public int feed");
            must(field || constructor, "rule 12: made in a call: " + made.group().trim());
        }
        methodLengths(code);
    }

    private static void methodLengths(String code) {
        int begin = 0;
        int line = 0;
        String head = "";
        for (String row : code.split("\n")) {
            line++;
            if (row.matches(" {4}( {4})?[a-z][^=;]*\\) \\{")) {
                begin = line;
                head = row.trim();
            }
            if (row.matches(" {4}( {4})?}") && begin > 0) {
                must(line - begin <= 60, "rule 11: length of " + head);
                begin = 0;
            }
        }
    }
}
