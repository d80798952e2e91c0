import com.sun.management.ThreadMXBean;
import java.lang.management.ManagementFactory;
import java.lang.reflect.Constructor;
import java.lang.reflect.Field;
import java.lang.reflect.Method;
import java.lang.reflect.Modifier;
import java.nio.file.Files;
import java.nio.file.Path;
import java.util.Arrays;
import java.util.Set;
import java.util.TreeSet;
import java.util.regex.Matcher;
import java.util.regex.Pattern;

/** The document's face, and those rules of LANGUAGE.md that can be seen without understanding. */
public final class SmokeHomeLanguage {
    private static final String[] FACE = {
        "int wood(int,int)", "int cell(int,int)", "int wind(int)", "int fire(int,int,int)", "int of(int,int)",
        "int change(int,int,int)", "int go(int)", "int now(int)", "int ahead(int,int,int)", "int grown(int,int)",
        "int when(int,int)", "int stuck(int)", "int crosses()", "int windFor(int)", "int homeFor(int,int,int)",
        "int build(int,int)", "int kindFor(int,int)", "int logsFor(int,int,int,int)", "int quench(int)",
        "int fits(int,int)", "int kinds(int,int)", "int winds(int)", "long odds(int,int,int)", "int seed(int)",
        "int feed(int,int)", "int wipe()", "int text()", "int hold(int,int)", "int as(int,int)",
        "int sheet(int,int,int)", "int write(int,int,int)", "int copy(int,int,int,int,int)", "int load(int)",
        "int judge(int)", "int image()", "int undo()", "int tear()", "int count(int)", "int status(int)"
    };
    private static final String[] NOT_USED = {
        "throw", "throws", "try", "catch", "finally", "synchronized", "assert", "import", "package", "volatile",
        "transient", "native", "Object", "Class", "Thread", "Random", "Exception", "var", "hashCode", "Override",
        "protected"
    };
    private static final int MOST_LINES = 60;
    private static final int MOST_PARAMETERS = 7;
    private static final int MOST_FIELDS = 20;
    private static final int MOST_CLASSES = 12;

    private static int wrong = 0;

    private static void holds(boolean it, String rule) {
        if (!it) {
            wrong++;
            System.out.println("not so: " + rule);
        }
    }

    public static void main(String[] args) throws Exception {
        face();
        classes();
        madeByCalls();
        source(Files.readString(Path.of("src/main/java/SmokeHome.java")));
        System.out.println(wrong == 0 ? "the language is kept" : wrong + " rules are not kept");
        if (wrong != 0) {
            System.exit(1);
        }
    }

    private static void face() {
        holds(Modifier.isFinal(SmokeHome.class.getModifiers()), "rule 1: the class is final");
        Set<String> told = new TreeSet<>();
        Set<String> names = new TreeSet<>();
        for (Method m : SmokeHome.class.getDeclaredMethods()) {
            if (Modifier.isPublic(m.getModifiers())) {
                told.add(signature(m));
                names.add(m.getName());
            } else {
                holds(Modifier.isPrivate(m.getModifiers()), "rule 1: private " + m.getName());
            }
        }
        holds(told.equals(new TreeSet<>(Arrays.asList(FACE))), "rule 1: the face is the document's: " + told);
        for (Class<?> c : SmokeHome.class.getDeclaredClasses()) {
            for (Method m : c.getDeclaredMethods()) {
                holds(!names.contains(m.getName()), "rule 1: no other method is named " + m.getName());
            }
        }
        for (Field f : SmokeHome.class.getDeclaredFields()) {
            holds(Modifier.isPrivate(f.getModifiers()), "rule 1: private " + f.getName());
        }
        Constructor<?>[] made = SmokeHome.class.getDeclaredConstructors();
        holds(made.length == 1 && made[0].getParameterCount() == 0
                && Modifier.isPublic(made[0].getModifiers()), "rule 1: one public constructor");
    }

    private static String signature(Method m) {
        StringBuilder told = new StringBuilder(m.getReturnType() + " " + m.getName() + "(");
        for (Class<?> p : m.getParameterTypes()) {
            told.append(told.charAt(told.length() - 1) == '(' ? "" : ",").append(p);
        }
        return told + ")";
    }

    private static void classes() {
        Class<?>[] inside = SmokeHome.class.getDeclaredClasses();
        holds(inside.length + 1 <= MOST_CLASSES, "rule 11: classes " + (inside.length + 1));
        holds(fields(SmokeHome.class) <= MOST_FIELDS, "rule 11: fields of SmokeHome");
        for (Class<?> c : inside) {
            holds(Modifier.isStatic(c.getModifiers()), "rule 2: static " + c.getSimpleName());
            holds(fields(c) <= MOST_FIELDS, "rule 11: fields of " + c.getSimpleName());
            for (Method m : c.getDeclaredMethods()) {
                holds(m.getParameterCount() <= MOST_PARAMETERS, "rule 11: parameters of " + m.getName());
            }
        }
    }

    private static int fields(Class<?> c) {
        int own = 0;
        for (Field f : c.getDeclaredFields()) {
            if (Modifier.isStatic(f.getModifiers())) {
                holds(Modifier.isFinal(f.getModifiers()) && f.getType() == int.class, "rule 5: constant " + f.getName());
            } else {
                own++;
            }
        }
        return own;
    }

    /** All calls of a run live in one room, so that whatever a call made would count many times. */
    private static void madeByCalls() {
        ThreadMXBean meter = (ThreadMXBean) ManagementFactory.getThreadMXBean();
        SmokeHome x = new SmokeHome();
        manyCalls(x);
        long before = meter.getThreadAllocatedBytes(Thread.currentThread().getId());
        for (int i = 0; i < 100; i++) {
            manyCalls(x);
        }
        long made = meter.getThreadAllocatedBytes(Thread.currentThread().getId()) - before;
        holds(made < 100000, "rule 12: calls make no objects; here they made bytes: " + made);
    }

    private static void manyCalls(SmokeHome x) {
        for (int kind = 0; kind < 7; kind++) {
            x.fire(kind, kind, 24 - kind);
        }
        x.image();
        x.sheet(0, 8, 40);
        x.sheet(1, 8, 40);
        x.write(0, 0, -1);
        x.copy(0, 0, 1, 0, 40);
        x.feed(0x62656420, 4);
        x.text();
        x.logsFor(0, 24, 9999, 40);
        x.quench(20);
        x.windFor(40);
        x.homeFor(0, 24, 40);
        x.build(0, 40);
        x.kindFor(0, 40);
        x.fits(1, 0);
        x.kinds(1, 0);
        x.load(0);
        x.judge(0);
        x.winds(20);
        x.go(60);
        x.undo();
        x.status(-1);
    }

    private static void source(String text) {
        for (int i = 0; i < text.length(); i++) {
            holds(text.charAt(i) == '\n' || text.charAt(i) >= 32 && text.charAt(i) < 127, "plain signs at " + i);
        }
        String code = text.replaceAll("(?s)/\\*.*?\\*/", "").replaceAll("//[^\n]*", "").replaceAll("\"[^\"\n]*\"", "\"\"");
        for (String word : NOT_USED) {
            holds(!Pattern.compile("\\b" + word + "\\b").matcher(code).find(), "rules 4, 6 and 13: no " + word);
        }
        holds(!code.contains("->") && !code.contains("::"), "rule 2: no lambda, no method reference");
        Matcher called = Pattern.compile("\\b(Math|System|Arrays|Integer|Long)\\.(\\w+)").matcher(code);
        while (called.find()) {
            holds(Set.of("Math.min", "Math.abs", "System.arraycopy", "Integer.bitCount").contains(called.group()),
                    "rule 4: " + called.group());
        }
        lengths(text);
    }

    private static void lengths(String text) {
        int since = -1;
        String[] lines = text.split("\n");
        for (int i = 0; i < lines.length; i++) {
            holds(lines[i].length() <= 110, "line " + (i + 1) + " is not long");
            if (lines[i].matches(" {4,8}[a-z].*\\) \\{")) {
                since = i;
            }
            if (since >= 0 && lines[i].matches(" {4,8}\\}")) {
                holds(i - since < MOST_LINES, "rule 11: the method at line " + (since + 1) + " is short");
            }
        }
    }
}
