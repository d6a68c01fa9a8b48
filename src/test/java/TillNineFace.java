import java.io.IOException;
import java.lang.management.ManagementFactory;
import java.lang.reflect.Constructor;
import java.lang.reflect.Field;
import java.lang.reflect.Method;
import java.lang.reflect.Modifier;
import java.nio.charset.StandardCharsets;
import java.nio.file.Files;
import java.nio.file.Path;
import java.util.ArrayList;
import java.util.Arrays;
import java.util.List;
import java.util.TreeSet;
import java.util.regex.Matcher;
import java.util.regex.Pattern;

/** The public face is the document's, the source keeps to what can be looked up of LANGUAGE.md, and calls make no objects. */
public final class TillNineFace {
    private static final String[] FACE = {
        "int type(int)", "int wipe()", "int fault()", "int shop(int,int)", "int sort(int,int)", "int set(int,int)",
        "int hours(int,int)", "int read(int)", "int open(int)", "long earns(int,int)", "long all(int,int)", "int answer(int)",
        "int rest(int)", "int still(int,int)", "int best(int,int)", "long loss(int)", "int leastFine()", "long bestCap(int)",
        "int edge(int)", "long always(int,int)", "int turn(int,int)", "int keeps(int)", "long week(int,int)",
        "int weeks(int,int)", "int back()", "int sheet(int,int,int)", "int lose(int)", "int lay(int,int,int,int)",
        "int get(int,int,int)", "int copy(int,int,int,int,int)", "int write(int)", "int count(int)", "long digest()"};
    private static final String[] LIBRARY = {"java.util.Arrays"};
    private static final Path SOURCE = Path.of("src/main/java/TillNine.java");

    private static int wrong = 0;

    private static void must(boolean holds, String what) {
        if (!holds) {
            wrong++;
            System.out.println("not so: " + what);
        }
    }

    public static void main(String[] args) throws IOException {
        members();
        names();
        source();
        room();
        System.out.println(wrong + " not so");
        if (wrong != 0) {
            System.exit(1);
        }
    }

    private static void members() {
        Class<TillNine> c = TillNine.class;
        must(Modifier.isPublic(c.getModifiers()) && Modifier.isFinal(c.getModifiers()), "the class is public and final");
        TreeSet<String> due = new TreeSet<>(Arrays.asList(FACE));
        TreeSet<String> got = new TreeSet<>();
        for (Method m : c.getDeclaredMethods()) {
            if (!Modifier.isPrivate(m.getModifiers())) {
                List<String> of = new ArrayList<>();
                for (Class<?> p : m.getParameterTypes()) {
                    of.add(p.getName());
                }
                must(Modifier.isPublic(m.getModifiers()) && !Modifier.isStatic(m.getModifiers()), m.getName() + " is public, not static");
                got.add(m.getReturnType().getName() + " " + m.getName() + "(" + String.join(",", of) + ")");
            }
        }
        must(got.equals(due), "methods: " + got);
        Constructor<?>[] made = c.getDeclaredConstructors();
        must(made.length == 1 && Modifier.isPublic(made[0].getModifiers()) && made[0].getParameterCount() == 0, "one constructor");
        TreeSet<String> constants = new TreeSet<>();
        for (Field f : c.getDeclaredFields()) {
            if (!Modifier.isPrivate(f.getModifiers())) {
                must(f.getType() == int.class && Modifier.isFinal(f.getModifiers()) && Modifier.isStatic(f.getModifiers()), f.getName());
                constants.add(f.getName());
            }
        }
        must(constants.equals(new TreeSet<>(List.of("NONE", "BAD", "NOT", "FULL"))), "constants: " + constants);
        must(TillNine.NONE == -1 && TillNine.BAD == -2 && TillNine.NOT == -3 && TillNine.FULL == -4, "what they are");
    }

    private static void names() {
        TreeSet<String> face = new TreeSet<>();
        for (String f : FACE) {
            face.add(f.substring(f.indexOf(' ') + 1, f.indexOf('(')));
        }
        List<Class<?>> all = new ArrayList<>(List.of(TillNine.class));
        all.addAll(Arrays.asList(TillNine.class.getDeclaredClasses()));
        must(all.size() <= 12, "twelve classes");
        for (Class<?> c : all) {
            must(c == TillNine.class || Modifier.isStatic(c.getModifiers()), c.getName() + " is static");
            int fields = 0;
            for (Field f : c.getDeclaredFields()) {
                boolean fixed = Modifier.isStatic(f.getModifiers());
                must(!fixed || Modifier.isFinal(f.getModifiers()), f + " is final");
                fields += fixed ? 0 : 1;
            }
            must(fields <= 20, c.getName() + " has at most twenty fields");
            for (Method m : c.getDeclaredMethods()) {
                must(m.getParameterCount() <= 7, m + " takes at most seven");
                must(c == TillNine.class && Modifier.isPublic(m.getModifiers()) || !face.contains(m.getName()), m + " has a name of the face");
            }
        }
    }

    private static void source() throws IOException {
        String text = new String(Files.readAllBytes(SOURCE), StandardCharsets.ISO_8859_1);
        must(text.chars().allMatch(ch -> ch == '\n' || ch >= 32 && ch < 127), "signs of the source");
        Matcher imports = Pattern.compile("import ([\\w.*]+);").matcher(text);
        while (imports.find()) {
            must(Arrays.asList(LIBRARY).contains(imports.group(1)), "import " + imports.group(1));
        }
        String code = text.replaceAll("(?s)/\\*.*?\\*/", "").replaceAll("//[^\n]*", "");
        for (String word : List.of("throw", "throws", "try", "catch", "finally", "synchronized", "assert", "package", "Object", "System.out")) {
            must(!Pattern.compile("\\b" + word + "\\b").matcher(code).find(), "without " + word);
        }
        must(!code.contains("->") && !code.contains("::") && !code.contains("\"") && !code.contains("Exact"), "without lambdas, texts, Exact");
        must(!Pattern.compile("\\bwhile\\b").matcher(code).find(), "each loop counts");
        int begin = -1;
        String[] lines = text.split("\n");
        for (int i = 0; i < lines.length; i++) {
            if (lines[i].matches(" {4}( {4})?[\\w ]*[\\w\\[\\]]+ \\w+\\(.*\\) \\{")) {
                begin = i;
            } else if (lines[i].matches(" {4}( {4})?\\}")) {
                must(begin < 0 || i - begin < 60, "short: " + lines[Math.max(begin, 0)].trim());
                begin = -1;
            }
        }
    }

    private static void room() {
        TillNine x = new TillNine();
        String text = "s3,9;s1,8;s2,7;s1,3;s2,4;b1,9,-,8,9,3;b2,9,1,8,9,3;b3,9,0,8,9,3";
        calls(x, text);
        com.sun.management.ThreadMXBean threads = (com.sun.management.ThreadMXBean) ManagementFactory.getThreadMXBean();
        long id = Thread.currentThread().getId();
        threads.getThreadAllocatedBytes(id);
        long before = threads.getThreadAllocatedBytes(id);
        for (int i = 0; i < 10; i++) {
            calls(x, text);
        }
        long made = threads.getThreadAllocatedBytes(id) - before;
        must(made < 20000, "a thousand calls make next to nothing: " + made + " bytes");
    }

    private static void calls(TillNine x, String text) {
        x.wipe();
        for (int i = 0; i < text.length(); i++) {
            x.type(text.charAt(i));
        }
        x.type(300);
        x.fault();
        x.set(0, 5);
        x.hours(0, 1);
        x.open(1);
        x.earns(0, 0);
        x.all(0, 0);
        x.answer(1);
        x.rest(0);
        x.still(0, 0);
        x.still(-1, -1);
        x.best(0, 0);
        x.loss(0);
        x.leastFine();
        x.bestCap(0);
        x.edge(0);
        x.always(0, 0);
        x.turn(0, 3);
        x.keeps(0);
        x.week(0, 0);
        x.weeks(50, 0);
        x.back();
        x.sheet(0, 1, 60);
        x.lay(0, 1, 0, 1);
        x.get(0, 1, 0);
        x.copy(0, 0, 0, 1, 9);
        x.write(0);
        x.read(0);
        x.lose(0);
        x.count(3);
        x.digest();
        x.shop(0, 0);
    }
}
