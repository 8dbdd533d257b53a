import java.io.IOException;
import java.lang.management.ManagementFactory;
import java.lang.reflect.Field;
import java.lang.reflect.Method;
import java.lang.reflect.Modifier;
import java.nio.file.Files;
import java.nio.file.Path;
import java.util.Arrays;
import java.util.TreeSet;
import java.util.regex.Matcher;
import java.util.regex.Pattern;

/** The face, and those rules of LANGUAGE.md that can be looked up in the source or seen in a run. */
public final class LanguageTest {
    private static int wrong = 0;

    private static void need(boolean holds, String what) {
        if (holds) return;
        wrong++;
        System.out.println(what);
    }

    public static void main(String[] args) throws IOException {
        face();
        source(Files.readString(Path.of("src/main/java/TypesAtPrime.java")));
        room();
        System.out.println(wrong == 0 ? "within the language" : wrong + " rules are broken");
        if (wrong != 0) System.exit(1);
    }

    private static final String[] METHODS = {"int prime(int)", "int feed(int)", "int wipe()", "int text(int)", "long set(int,int,int)", "long at(int,int)",
        "int told(int,int)", "int mix(int,int,int,int,int)", "int times(int,int,int)", "long worth(int,int)", "long expansion(int,int,int,int)",
        "long factor(int,int,int)", "int grow(int)", "int tree(int)", "int knot(int,int)", "long key(int,int)", "int point(int,int)", "int side(int,int,int)",
        "int residual(int,int,int)", "int monomial(int,int,int)", "int leaf(int,int)", "int spelling(int)", "int ask()", "int corner(int,int)",
        "long slope(int,int,int,int)", "int whyNot(int,int,int)", "int spill(int,int,int)", "int sheet(int,int,int)", "int cell(int,int,int)",
        "long item(int,int)", "int shift(int,int,int,int,int)", "int count(int)"};
    private static final String[] CONSTANTS = {"BAD", "NONE", "NOT", "FULL", "WIDE", "DEEP", "NOTHING", "OUTSIDE", "SORT", "SIZE", "BY_NOUGHT", "NO"};

    private static void face() {
        Class<?> face = TypesAtPrime.class;
        need(Modifier.isFinal(face.getModifiers()) && Modifier.isPublic(face.getModifiers()), "rule 1: the class is public and final");
        TreeSet<String> seen = new TreeSet<>(), names = new TreeSet<>(), constants = new TreeSet<>();
        for (Method m : face.getDeclaredMethods()) {
            if (!Modifier.isPublic(m.getModifiers())) continue;
            StringBuilder b = new StringBuilder(m.getReturnType() + " " + m.getName() + "(");
            for (Class<?> t : m.getParameterTypes()) b.append(b.charAt(b.length() - 1) == '(' ? "" : ",").append(t);
            seen.add(b.append(")").toString());
            names.add(m.getName());
        }
        for (Method m : face.getDeclaredMethods()) {
            need(Modifier.isPublic(m.getModifiers()) || Modifier.isPrivate(m.getModifiers()), "rule 1: " + m + " is neither public nor private");
            need(Modifier.isPublic(m.getModifiers()) || !names.contains(m.getName()), "rule 1: a private method bears the name " + m.getName());
        }
        for (Field f : face.getDeclaredFields()) {
            if (Modifier.isPublic(f.getModifiers())) constants.add(f.getName());
            else need(Modifier.isPrivate(f.getModifiers()), "rule 1: " + f + " is not private");
            need(!Modifier.isStatic(f.getModifiers()) || Modifier.isFinal(f.getModifiers()), "rule 5: " + f + " is static and not final");
        }
        need(seen.equals(new TreeSet<>(Arrays.asList(METHODS))), "rule 1: the methods are " + seen);
        need(constants.equals(new TreeSet<>(Arrays.asList(CONSTANTS))), "rule 1: the constants are " + constants);
        need(face.getDeclaredClasses().length < 12, "rule 11: too many classes");
        for (Class<?> inner : face.getDeclaredClasses()) {
            need(Modifier.isStatic(inner.getModifiers()), "rule 2: " + inner + " is not static");
            need(inner.getDeclaredFields().length <= 20, "rule 11: too many fields in " + inner);
        }
    }

    private static void source(String whole) {
        String text = whole.replaceAll("(?s)/\\*.*?\\*/", "").replaceAll("//[^\n]*", "");
        for (String word : new String[] {"throw", "throws", "try", "catch", "finally", "synchronized", "assert", "package", "Object", "hashCode", "toString", "float", "double"}) {
            need(!Pattern.compile("\\b" + word + "\\b").matcher(text).find(), "rule 6: the word " + word);
        }
        for (String sign : new String[] {"->", "::", "Exact", "\"\"\""}) need(!text.contains(sign), "rule 2 or 4: " + sign);
        Matcher imports = Pattern.compile("import\\s+([^;]+);").matcher(text);
        while (imports.find()) need(imports.group(1).equals("java.util.Arrays"), "rule 4: imports " + imports.group(1));
        Matcher library = Pattern.compile("\\b(Arrays|Math|System)\\.(\\w+)").matcher(text);
        while (library.find()) {
            String call = library.group(1) + "." + library.group(2);
            need(Arrays.asList("Arrays.fill", "Math.min", "Math.max", "System.arraycopy").contains(call), "rule 4: " + call);
        }
        methods(whole.split("\n"));
    }

    private static void methods(String[] lines) {
        Pattern head = Pattern.compile("^( {4}| {8})(?:\\w[\\w\\[\\]]* )*\\w+\\(([^)]*)\\) \\{$");
        for (int i = 0; i < lines.length; i++) {
            Matcher m = head.matcher(lines[i]);
            if (!m.matches()) continue;
            need(m.group(2).split(",").length <= 7, "rule 11: parameters of " + lines[i].trim());
            int end = i;
            while (end < lines.length && !lines[end].equals(m.group(1) + "}")) end++;
            need(end - i <= 60, "rule 11: length of " + lines[i].trim());
        }
    }

    /** All calls of a run live in one room: the dearest ones make no objects at all. */
    private static void room() {
        com.sun.management.ThreadMXBean bean = (com.sun.management.ThreadMXBean) ManagementFactory.getThreadMXBean();
        long id = Thread.currentThread().getId();
        dearRun(new TypesAtPrime());
        bean.getThreadAllocatedBytes(id);
        TypesAtPrime x = new TypesAtPrime();
        long before = bean.getThreadAllocatedBytes(id);
        dearRun(x);
        long made = bean.getThreadAllocatedBytes(id) - before;
        need(made < 20000, "rule 12: a run of calls made " + made + " bytes");
    }

    private static void dearRun(TypesAtPrime x) {
        int[] f = {9, 24, 52, 72, 74, 56, 28, 8, 1};
        x.prime(2);
        for (int k = 0; k < 9; k++) x.set(0, k, f[k]);
        x.sheet(0, 1, 40);
        for (int n = 0; n < 60; n++) {
            x.grow(0);
            x.factor(0, 0, -1);
            x.expansion(0, 0, 0, 0);
            x.corner(0, 1);
            x.feed('x');
            x.text(1);
            x.feed('x');
            x.ask();
        }
    }
}
