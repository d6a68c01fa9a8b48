import java.io.IOException;
import java.lang.reflect.Method;
import java.nio.charset.StandardCharsets;
import java.nio.file.Files;
import java.nio.file.Path;
import java.util.TreeMap;
import java.util.TreeSet;
import java.util.regex.Matcher;
import java.util.regex.Pattern;

/** README.md tells the truth: its rows of Java answer what stands behind them, and it names every call and every test. */
public final class TillNineReadme {
    private static final Path README = Path.of("README.md");
    private static final Path TESTS = Path.of("src/test/java");
    private static final Pattern TYPED = Pattern.compile("for \\(char c : \"([^\"]*)\"\\.toCharArray\\(\\)\\) x\\.type\\(c\\);");
    private static final Pattern CALL = Pattern.compile("x\\.(\\w+)\\(([^)]*)\\); +// (.+)");

    private static final TreeMap<String, Method> FACE = new TreeMap<>();
    private static final TreeSet<String> PLAYED = new TreeSet<>();
    private static int wrong = 0;
    private static int played = 0;

    private static void must(boolean holds, String what) {
        if (!holds) {
            wrong++;
            System.out.println("not so: " + what);
        }
    }

    public static void main(String[] args) throws Exception {
        for (Method m : TillNine.class.getDeclaredMethods()) {
            if ((m.getModifiers() & java.lang.reflect.Modifier.PUBLIC) != 0) {
                FACE.put(m.getName(), m);
            }
        }
        String text = Files.readString(README, StandardCharsets.UTF_8);
        rows(text);
        names(text);
        System.out.println(played + " rows of README.md played, " + wrong + " not so");
        if (wrong != 0) {
            System.exit(1);
        }
    }

    private static void rows(String text) throws ReflectiveOperationException {
        TillNine x = null;
        boolean java = false;
        int calls = 0;
        for (String row : text.split("\n")) {
            if (row.startsWith("```")) {
                java = row.equals("```java");
            } else if (java && row.equals("TillNine x = new TillNine();")) {
                x = new TillNine();
                calls = 0;
            } else if (java) {
                calls += play(x, row);
                must(calls <= 512, "an object is used for 512 calls");
            }
        }
        must(played > 50, "there are rows to play: " + played);
    }

    /* Answers how many calls it was; a row that is neither form is a fault of README.md. */
    private static int play(TillNine x, String row) throws ReflectiveOperationException {
        Matcher typed = TYPED.matcher(row);
        if (x != null && typed.matches()) {
            for (char c : typed.group(1).toCharArray()) {
                x.type(c);
            }
            return typed.group(1).length();
        }
        Matcher call = CALL.matcher(row);
        boolean known = x != null && call.matches() && FACE.containsKey(call.group(1));
        must(known, "a row that can be played: " + row);
        if (!known) {
            return 0;
        }
        Method m = FACE.get(call.group(1));
        String[] told = call.group(2).isEmpty() ? new String[0] : call.group(2).split(", ");
        Object[] given = new Object[told.length];
        for (int i = 0; i < told.length; i++) {
            given[i] = told[i].equals("TillNine.NONE") ? TillNine.NONE : Integer.parseInt(told[i]);
        }
        long got = ((Number) m.invoke(x, given)).longValue();
        must(got == number(call.group(3)), row + " answered " + got);
        played++;
        PLAYED.add(m.getName());
        return 1;
    }

    private static long number(String text) {
        if (text.equals("Integer.MIN_VALUE")) {
            return Integer.MIN_VALUE;
        }
        if (text.startsWith("Long.MIN_VALUE + ")) {
            return Long.MIN_VALUE + Long.parseLong(text.substring("Long.MIN_VALUE + ".length()));
        }
        return Long.parseLong(text);
    }

    private static void names(String text) throws IOException {
        for (String name : FACE.keySet()) {
            must(PLAYED.contains(name) || text.contains("`" + name + "("), "README.md tells of " + name);
        }
        must(FACE.size() == 33, "all calls: " + FACE.size());
        try (var files = Files.newDirectoryStream(TESTS, "*.java")) {
            for (Path file : files) {
                String name = file.getFileName().toString().replace(".java", "");
                must(text.contains("`" + name + "`"), "README.md tells of " + name);
            }
        }
    }
}
