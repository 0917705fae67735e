import java.lang.reflect.Constructor;
import java.lang.reflect.Field;
import java.lang.reflect.Method;
import java.lang.reflect.Modifier;
import java.nio.file.Files;
import java.nio.file.Path;
import java.util.ArrayList;
import java.util.Arrays;
import java.util.List;
import java.util.Set;
import java.util.TreeSet;
import java.util.regex.Matcher;
import java.util.regex.Pattern;

/** The public face, the rules of LANGUAGE.md that a scan can see, strange arguments, and what calls leave in the room. */
public final class FaceTest {
    private static final Due due = new Due();
    private static final Path SOURCE = Path.of("src/main/java/QuotaLaws.java");
    private static final Path DOCUMENT = Path.of("../shared/DOC.md");
    private static final Set<String> LIBRARY = Set.of("Math.max", "Math.min", "Integer.bitCount", "Arrays.fill", "System.arraycopy");
    private static final String FACE = "int feed(int);int end(int);int text();int fault();int rule(int);int law(int,int);"
            + "int one(int,int);int broken(int,int);int quota(int,int);int carry(int,int);int watch(int,boolean);"
            + "int time(int,int);int refuse(int,int,boolean);int want(int,int,boolean);int fund(int,int);int revive(int);"
            + "int breaks(int,int);int year();int falls();int most(int);int rota(int);int more(int);int together(int);"
            + "int kill(int,int);int selfish(int);long luck(int,int);int see(int,int,int);int forget(int);long books();"
            + "int entry(int,int,int);int wild(int,int,int);int keep(int);int back(int);int sheet(int,int,int);"
            + "int lay(int,int,int);int read(int,int,int,int);int torn();int count(int)";

    public static void main(String[] args) throws Exception {
        documentsFace();
        face();
        constants();
        language();
        strangeArguments();
        room();
        due.finish();
    }

    /** That the face which is tested here is the one that the document writes out. */
    private static void documentsFace() throws Exception {
        if (!Files.exists(DOCUMENT)) {
            System.out.println(DOCUMENT + " is not here: the face is not looked for");
            return;
        }
        String block = Files.readString(DOCUMENT).split("```")[1];
        StringBuilder found = new StringBuilder();
        Matcher method = Pattern.compile("public (int|long) (\\w+)\\(([^)]*)\\);").matcher(block);
        while (method.find()) {
            String types = method.group(3).replaceAll("(int|boolean) \\w+", "$1").replace(" ", "");
            found.append(found.length() > 0 ? ";" : "").append(method.group(1) + " " + method.group(2) + "(" + types + ")");
        }
        due.holds("the document's face is " + found, found.toString().equals(FACE));
    }

    private static void face() {
        Set<String> found = new TreeSet<>();
        for (Method m : QuotaLaws.class.getDeclaredMethods()) {
            if (Modifier.isPublic(m.getModifiers())) {
                StringBuilder types = new StringBuilder();
                for (Class<?> c : m.getParameterTypes()) {
                    types.append(types.length() > 0 ? "," : "").append(c.getName());
                }
                found.add(m.getReturnType().getName() + " " + m.getName() + "(" + types + ")");
            } else {
                due.holds(m + " is private", Modifier.isPrivate(m.getModifiers()));
                due.holds(m + " has a name of its own", !FACE.contains(" " + m.getName() + "("));
            }
        }
        Set<String> want = new TreeSet<>(Arrays.asList(FACE.split(";")));
        due.holds("the public methods are " + found, found.equals(want));
        due.is("methods", found.size(), 38);
        Constructor<?>[] made = QuotaLaws.class.getDeclaredConstructors();
        due.holds("one public constructor", made.length == 1 && Modifier.isPublic(made[0].getModifiers()));
        due.holds("public and final", Modifier.isFinal(QuotaLaws.class.getModifiers()));
        for (Class<?> inside : QuotaLaws.class.getDeclaredClasses()) {
            due.holds(inside + " is static", Modifier.isStatic(inside.getModifiers()));
            due.holds(inside + " is not public", !Modifier.isPublic(inside.getModifiers()));
            int fields = 0;
            for (Field f : inside.getDeclaredFields()) {
                fields += Modifier.isStatic(f.getModifiers()) ? 0 : 1;
            }
            due.holds(inside + " has some twenty fields", fields <= 20);
            for (Method m : inside.getDeclaredMethods()) {
                due.holds(m + " has a name of its own", !FACE.contains(" " + m.getName() + "("));
            }
        }
    }

    private static void constants() throws Exception {
        due.is("BAD", QuotaLaws.BAD, -1);
        due.is("STATE", QuotaLaws.STATE, -2);
        due.is("FULL", QuotaLaws.FULL, -3);
        due.is("NONE", QuotaLaws.NONE, -4);
        List<String> open = new ArrayList<>();
        for (Field f : QuotaLaws.class.getDeclaredFields()) {
            if (Modifier.isStatic(f.getModifiers())) {
                due.holds(f + " is final", Modifier.isFinal(f.getModifiers()));
            }
            if (!Modifier.isPrivate(f.getModifiers())) {
                open.add(f.getName());
            }
        }
        due.holds("open fields are " + open, open.equals(List.of("BAD", "STATE", "FULL", "NONE")));
    }

    private static void language() throws Exception {
        String source = Files.readString(SOURCE);
        for (int i = 0; i < source.length(); i++) {
            due.holds("sign " + (int) source.charAt(i) + " at " + i, source.charAt(i) < 128);
        }
        String code = source.replaceAll("(?s)/\\*.*?\\*/", "").replaceAll("//[^\n]*", "");
        String[] none = {"\\bthrow\\b", "\\bthrows\\b", "\\btry\\b", "\\bcatch\\b", "\\bsynchronized\\b", "\\bassert\\b",
                "->", "::", "\\bpackage\\b", "\\bException\\b", "Exact\\b", "\\bSystem\\.(?!arraycopy)", "\\bdouble\\b",
                "\\bfloat\\b", "\\bString\\.format", "\\bstatic \\{", "\\bprotected\\b", "\\bObject\\b", "\\bvar\\b"};
        for (String word : none) {
            due.holds("no " + word, !Pattern.compile(word).matcher(code).find());
        }
        Matcher imports = Pattern.compile("\\bimport ([^;]*);").matcher(code);
        while (imports.find()) {
            due.holds(imports.group(1), Set.of("java.util.Arrays", "java.util.ArrayList", "java.util.List").contains(imports.group(1)));
        }
        Matcher library = Pattern.compile("\\b([A-Z][A-Za-z]*\\.[a-z][A-Za-z]*)\\(").matcher(code);
        while (library.find()) {
            due.holds(library.group(1), LIBRARY.contains(library.group(1)));
        }
        int classes = code.split("\\bclass\\b").length - 1;
        due.holds("some twelve classes", classes <= 12);
        methodLengths(code.split("\n"));
    }

    private static void methodLengths(String[] lines) {
        Pattern head = Pattern.compile("^( {4}| {8})[a-z].*\\((.*)\\) \\{$");
        for (int i = 0; i < lines.length; i++) {
            Matcher m = head.matcher(lines[i]);
            if (m.matches()) {
                int end = i;
                while (end < lines.length && !lines[end].equals(m.group(1) + "}")) {
                    end++;
                }
                due.holds("short: " + lines[i].trim(), end - i <= 60);
                due.holds("seven parameters: " + lines[i].trim(), m.group(2).split(",").length <= 7);
            }
        }
    }

    /** No call may throw, whatever its arguments; nor may it take a number that is out of all bounds. */
    private static void strangeArguments() throws Exception {
        int[] strange = {Integer.MIN_VALUE, Integer.MIN_VALUE + 1, -65537, -5, -4, -1, 0, 1, 2, 5, 10, 24, 25, 40, 160, 1 << 16, Integer.MAX_VALUE - 1, Integer.MAX_VALUE};
        String[] towns = {"", "law 1 1 1 1;", "one 1 1 1 1;", "law 9 3 9 9 1;law 9 3 9 9 0;law 9 3 9 9;law 9 3 9 9;law 9 3 9 9;one 5 3 9 9;one 5 3 9 9;one 5 3 9 9;"};
        java.util.Random random = new java.util.Random(5);
        for (String town : towns) {
            for (Method m : QuotaLaws.class.getDeclaredMethods()) {
                if (!Modifier.isPublic(m.getModifiers())) {
                    continue;
                }
                for (int i = 0; i < 400; i++) {
                    QuotaLaws x = Due.told(town);
                    x.sheet(1, 1, 7);
                    Class<?>[] types = m.getParameterTypes();
                    Object[] with = new Object[types.length];
                    for (int a = 0; a < with.length; a++) {
                        if (types[a] == boolean.class) {
                            with[a] = random.nextBoolean();
                        } else {
                            with[a] = strange[random.nextInt(strange.length)];
                        }
                    }
                    long answer = ((Number) m.invoke(x, with)).longValue();
                    due.holds(m.getName() + Arrays.toString(with) + " answered " + answer, answer >= -40);
                }
            }
        }
    }

    /** Rows are made once, in the constructor: calls leave next to nothing behind. */
    private static void room() {
        com.sun.management.ThreadMXBean bean =
                (com.sun.management.ThreadMXBean) java.lang.management.ManagementFactory.getThreadMXBean();
        long thread = Thread.currentThread().getId();
        QuotaLaws x = Due.told("law 9 3 9 9 1;law 9 3 9 9 0;law 9 3 9 9;law 9 3 9 9;law 9 3 9 9;one 5 3 9 9;one 5 3 9 9;one 5 3 9 9;");
        dearCalls(x);
        long before = bean.getThreadAllocatedBytes(thread);
        for (int i = 0; i < 2000; i++) {
            dearCalls(x);
        }
        long used = bean.getThreadAllocatedBytes(thread) - before;
        due.holds("2000 rounds of calls made " + used + " bytes", used < 200000);
    }

    private static void dearCalls(QuotaLaws x) {
        x.see(1, 0, 3);
        x.see(1, 1, 3);
        x.rota(12);
        x.more(1);
        x.together(1);
        x.kill(0, 1);
        x.selfish(2);
        x.luck(0, 1);
        x.books();
        x.entry(1, 1, 1);
        x.wild(7, 60, 1);
        x.keep(1);
        x.back(1);
        x.sheet(1, 2, 40);
        x.lay(1, 2, 1);
        x.read(1, 2, 0, 4);
        x.falls();
        x.most(1);
        x.year();
        x.forget(0);
    }
}
