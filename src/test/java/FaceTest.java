import java.lang.management.ManagementFactory;
import java.lang.reflect.Constructor;
import java.lang.reflect.Field;
import java.lang.reflect.Method;
import java.lang.reflect.Modifier;
import java.nio.file.Files;
import java.nio.file.Path;
import java.util.ArrayList;
import java.util.Arrays;
import java.util.List;
import java.util.Random;
import java.util.TreeSet;
import java.util.regex.Matcher;
import java.util.regex.Pattern;

/** The public face, the rules of LANGUAGE.md that can be seen from here, and what a run allocates. */
public final class FaceTest {
    private static final String[] FACE = {
        "int master(int)", "int knitter(int)", "int frame(int,int,int)", "boolean hire(int,int)", "boolean back(int)",
        "int feed(int,int,int,int,int)", "int list(int)", "int act(int,int,int)", "boolean uses(int,int)",
        "int listOf(int,int)", "long worth(int,int)", "int entry(int,int,int,int,int,int,int)",
        "long week(int,int,int,int)", "long earned(int,int,int,boolean)", "boolean number(int,int)", "int amiss(int)",
        "boolean tells(int,int,int,int)", "int differs(int,int,int)", "long spread(int,int,int,int,int,int)",
        "int share(int)", "long judge(int)", "long beside(int,int,int,int)", "int lot(int)", "boolean told(int,int)",
        "int is(int)", "boolean owes(int,int,int)", "long net(int)", "int payments()", "boolean clear()",
        "int fund(int)", "boolean strike(int,boolean)", "int lasts()", "int goes()", "int look(int,int)", "int count(int)"};

    public static void main(String[] args) throws Exception {
        face();
        classesInside();
        source(Files.readString(Path.of("src/main/java/FrameRents.java")));
        allocation();
        for (int seed = 0; seed < 400; seed++) anyArguments(seed);
        Check.end();
    }

    private static void is(String what, boolean is) {
        Check.due(what, is, true);
    }

    private static void face() {
        TreeSet<String> due = new TreeSet<>(Arrays.asList(FACE));
        TreeSet<String> got = new TreeSet<>();
        TreeSet<String> names = new TreeSet<>();
        for (Method m : FrameRents.class.getDeclaredMethods()) {
            if (Modifier.isPrivate(m.getModifiers())) continue;
            is("public, not static: " + m, m.getModifiers() == Modifier.PUBLIC);
            names.add(m.getName());
            got.add(m.toString().replaceAll("public (\\w+) FrameRents\\.", "$1 "));
        }
        is("the methods are " + got, got.equals(due));
        is("final and public", FrameRents.class.getModifiers() == (Modifier.PUBLIC | Modifier.FINAL));
        Constructor<?>[] constructors = FrameRents.class.getDeclaredConstructors();
        is("one constructor", constructors.length == 1 && constructors[0].getModifiers() == Modifier.PUBLIC);
        is("of no parameters", constructors[0].getParameterCount() == 0);
        for (Field f : FrameRents.class.getDeclaredFields()) {
            boolean isFace = f.getName().equals("NONE");
            is("private: " + f, isFace || Modifier.isPrivate(f.getModifiers()));
        }
        for (Class<?> c : all()) {
            for (Method m : c.getDeclaredMethods()) {
                is("a public method's name: " + m, c == FrameRents.class && Modifier.isPublic(m.getModifiers()) || !names.contains(m.getName()));
            }
        }
    }

    private static List<Class<?>> all() {
        List<Class<?>> all = new ArrayList<>();
        all.add(FrameRents.class);
        all.addAll(Arrays.asList(FrameRents.class.getDeclaredClasses()));
        return all;
    }

    private static void classesInside() {
        is("at most twelve classes", all().size() <= 12);
        for (Class<?> c : all()) {
            is("static, private: " + c, c == FrameRents.class || Modifier.isStatic(c.getModifiers()) && Modifier.isPrivate(c.getModifiers()));
            int fields = 0;
            for (Field f : c.getDeclaredFields()) {
                boolean isStatic = Modifier.isStatic(f.getModifiers());
                if (!isStatic) fields++;
                is("final: " + f, !isStatic || Modifier.isFinal(f.getModifiers()));
                is("a constant: " + f, !isStatic || f.getType().isPrimitive() || f.getType() == String.class);
            }
            is("at most twenty fields: " + c, fields <= 20);
            for (Method m : c.getDeclaredMethods()) is("seven parameters: " + m, m.getParameterCount() <= 7);
        }
    }

    private static void source(String whole) {
        String source = whole.replaceAll("(?s)/\\*.*?\\*/", "").replaceAll("//[^\n]*", "").replaceAll("'[^']*'", "' '");
        String[] banned = {"throw", "try", "catch", "finally", "synchronized", "assert", "import", "package", "instanceof",
            "transient", "volatile", "native", "strictfp", "float", "double", "System", "Object", "Arrays", "Exact"};
        for (String word : banned) is("without " + word, !Pattern.compile("\\b\\w*" + word + "\\b").matcher(source).find() || word.equals("try") && !Pattern.compile("\\btry\\b").matcher(source).find());
        is("no lambda", !source.contains("->"));
        is("no method reference", !source.contains("::"));
        is("no text joined by +", !Pattern.compile("\"\\s*\\+|\\+\\s*\"").matcher(source).find());
        is("ASCII alone", whole.chars().allMatch(c -> c < 128));
        methods(source);
    }

    /** Methods stay short; loops have a counter; objects are made in constructors alone. */
    private static void methods(String source) {
        String[] lines = source.split("\n");
        Pattern head = Pattern.compile("^(    |        )(public |private |static |final )*(\\w+(\\[\\])* )?(\\w+)\\([^;=]*\\) \\{$");
        Pattern loop = Pattern.compile("\\b(while|do)\\b|for \\([^;]*;\\s*;");
        String name = "";
        String indent = "";
        boolean isConstructor = false;
        int begin = -1;
        for (int i = 0; i < lines.length; i++) {
            Matcher m = head.matcher(lines[i]);
            if (m.find()) {
                name = m.group(5);
                indent = m.group(1);
                isConstructor = m.group(3) == null;
                begin = i;
            }
            is("a loop with a counter: " + lines[i].trim(), !loop.matcher(lines[i]).find());
            boolean makes = Pattern.compile("\\bnew\\b").matcher(lines[i]).find();
            is("made in a constructor: " + lines[i].trim(), !makes || begin >= 0 && isConstructor);
            if (begin < 0 || !lines[i].equals(indent + "}")) continue;
            is("sixty lines: " + name, i - begin <= 60);
            begin = -1;
        }
    }

    /** No call throws, whatever it is given, and the same calls give the same answers. */
    private static void anyArguments(int seed) throws Exception {
        Random random = new Random(seed);
        FrameRents x = new FrameRents();
        FrameRents y = new FrameRents();
        List<Method> methods = new ArrayList<>();
        for (Method m : FrameRents.class.getDeclaredMethods()) if (Modifier.isPublic(m.getModifiers())) methods.add(m);
        methods.sort((a, b) -> a.getName().compareTo(b.getName()));
        String calls = "calls of seed " + seed + " answer the same";
        boolean same = true;
        for (int i = 0; i < 512; i++) {
            Method m = methods.get(random.nextInt(methods.size()));
            Object[] args = new Object[m.getParameterCount()];
            for (int a = 0; a < args.length; a++) {
                args[a] = m.getParameterTypes()[a] == boolean.class ? (Object) random.nextBoolean() : (Object) any(random, m.getName().equals("feed"));
            }
            same &= m.invoke(x, args).equals(m.invoke(y, args));
        }
        is(calls, same);
    }

    private static final int[] FAR = {Integer.MIN_VALUE, Integer.MAX_VALUE, Integer.MIN_VALUE + 1, -2, -1000000000, 1 << 20, 519, 520, 1000000, 1000001};

    private static int any(Random random, boolean isText) {
        if (isText) {
            int n = 0;
            for (int i = 0; i < 4; i++) n = n << 8 | "WRCTAB=;d1(?<:)+*/i9^_".charAt(random.nextInt(22));
            return random.nextInt(4) == 0 ? random.nextInt() : n;
        }
        int chance = random.nextInt(20);
        if (chance == 0) return FAR[random.nextInt(FAR.length)];
        if (chance < 3) return random.nextInt(300) - 20;
        return random.nextInt(14) - 1;
    }

    private static long allocated() {
        return ((com.sun.management.ThreadMXBean) ManagementFactory.getThreadMXBean()).getCurrentThreadAllocatedBytes();
    }

    /** A run makes what its constructor makes, and nothing in its calls. */
    private static void allocation() {
        run(new FrameRents());
        long before = allocated();
        FrameRents x = new FrameRents();
        long made = allocated() - before;
        is("a new object of " + made + " bytes", made < 400000);
        before = allocated();
        run(x);
        made = allocated() - before;
        is("a run's calls make " + made + " bytes", made < 20000);
    }

    private static void run(FrameRents x) {
        x.master(FrameRents.NONE);
        x.master(0);
        x.knitter(5);
        for (int f = 0; f < 12; f++) {
            x.frame(20, f % 2, f % 3 == 0 ? 0 : FrameRents.NONE);
            x.hire(f, 0);
        }
        for (int i = 0; i < 5; i++) {
            x.feed(0x573d642a, 0x35300000, 0, 0, 0);
            x.list(6);
            x.feed(0x525f6400, 0, 0, 0, 0);
            x.act(0, 519, 3);
            x.uses(i % 2, i);
            x.feed(1, 2, 3, 4, 5);
            x.feed(1, 2, 3, 4, 5);
            x.worth(i, 22);
        }
        for (int i = 0; i < 30; i++) {
            x.goes();
            x.entry(i % 12, i, i % 10, i, i, i, i);
            x.tells(1, i, i % 10, i);
            x.week(i % 12, i, i, i % 8);
            x.earned(0, i, i, true);
            x.differs(1, i, 0);
            x.spread(i % 2, 0, i, 0, 0, 100);
            x.judge(0);
            x.beside(0, 0, 0, i);
            x.lot(i);
            x.told(i, i % 3);
            x.is(i);
            x.owes(i % 2, 6, i + 1);
            x.payments();
        }
    }
}
