import java.io.IOException;
import java.lang.reflect.Constructor;
import java.lang.reflect.Field;
import java.lang.reflect.Method;
import java.lang.reflect.Modifier;
import java.nio.file.Files;
import java.nio.file.Path;
import java.util.Arrays;
import java.util.Set;
import java.util.TreeSet;
import java.util.regex.Matcher;
import java.util.regex.Pattern;

/** What of LANGUAGE.md and of the document's face can be seen from outside. */
public final class RulesTest {
    private static final String FACE = "person(int,int) told(int,int) car(int,int) limit(int) out(int) type(long,int) people() "
        + "evening() count(int) board(int) leave(int) sand(int) turn(int) may(int) soonest(int,int) when(int,int,int) empty() "
        + "least(int,int) sure(int) worst(int,int) image() restore() pour(int,int,int) film(int,int,int) sheet(int,int,int) "
        + "drop(int) item(int,int,int,int) copy(int,int,int,int,int)";
    private static final String CONSTANTS = "BAD NOT FULL NONE NULL CAST INDEX SIZE";
    private static final Check CHECK = new Check();

    public static void main(String[] args) throws IOException {
        face();
        classesInside();
        source();
        callsMakeNothing();
        CHECK.end();
    }

    private static Set<String> words(String text) {
        return new TreeSet<>(Arrays.asList(text.split(" ")));
    }

    private static String signature(Method m) {
        StringBuilder b = new StringBuilder(m.getName()).append('(');
        for (Class<?> type : m.getParameterTypes()) {
            b.append(b.charAt(b.length() - 1) == '(' ? "" : ",").append(type);
        }
        return b.append(')').toString();
    }

    private static void face() {
        Class<?> c = TwelveCars.class;
        CHECK.holds("the class is public and final", Modifier.isPublic(c.getModifiers()) && Modifier.isFinal(c.getModifiers()));
        Set<String> methods = new TreeSet<>();
        for (Method m : c.getDeclaredMethods()) {
            if (Modifier.isPublic(m.getModifiers())) {
                methods.add(signature(m));
                CHECK.holds(m + " answers an int", m.getReturnType() == int.class && !Modifier.isStatic(m.getModifiers()));
            } else {
                CHECK.holds(m + " is private", Modifier.isPrivate(m.getModifiers()));
            }
        }
        CHECK.holds("public methods: " + methods, methods.equals(words(FACE)));
        Set<String> fields = new TreeSet<>();
        for (Field f : c.getDeclaredFields()) {
            if (Modifier.isPublic(f.getModifiers())) {
                fields.add(f.getName());
            } else {
                CHECK.holds(f + " is private", Modifier.isPrivate(f.getModifiers()));
            }
        }
        CHECK.holds("public constants: " + fields, fields.equals(words(CONSTANTS)));
        Constructor<?>[] makers = c.getDeclaredConstructors();
        CHECK.holds("one public constructor", makers.length == 1 && Modifier.isPublic(makers[0].getModifiers()));
    }

    private static void classesInside() {
        Class<?>[] inside = TwelveCars.class.getDeclaredClasses();
        CHECK.holds("some twelve classes", inside.length <= 11);
        for (Class<?> c : inside) {
            CHECK.holds(c + " is static", Modifier.isStatic(c.getModifiers()));
            CHECK.holds(c + " is not public", !Modifier.isPublic(c.getModifiers()) && !Modifier.isProtected(c.getModifiers()));
            oneClass(c);
        }
        oneClass(TwelveCars.class);
    }

    private static void oneClass(Class<?> c) {
        Set<String> names = new TreeSet<>();
        for (String call : words(FACE)) {
            names.add(call.substring(0, call.indexOf('(')));
        }
        int fields = 0;
        for (Field f : c.getDeclaredFields()) {
            boolean isStatic = Modifier.isStatic(f.getModifiers());
            CHECK.holds(f + " is final, being static", !isStatic || Modifier.isFinal(f.getModifiers()));
            CHECK.holds(f + " is of a type that a static field may have", !isStatic || Set.of("int", "long", "boolean", "char",
                "String", "int[]", "long[]", "char[]", "byte[]").contains(f.getType().getSimpleName()));
            fields += isStatic ? 0 : 1;
        }
        CHECK.holds(c + " has some twenty fields", fields <= 20);
        for (Method m : c.getDeclaredMethods()) {
            CHECK.holds(m + " takes at most seven", m.getParameterCount() <= 7);
            boolean isFace = c == TwelveCars.class && Modifier.isPublic(m.getModifiers());
            CHECK.holds(m + " bears the name of a public one", isFace || !names.contains(m.getName()));
        }
    }

    private static void source() throws IOException {
        String all = Files.readString(Path.of("src/main/java/TwelveCars.java"));
        CHECK.holds("plain signs alone", all.chars().allMatch(sign -> sign == '\n' || sign >= 32 && sign < 127));
        String code = all.replaceAll("(?s)/\\*.*?\\*/", "").replaceAll("//[^\n]*", "").replaceAll("\"[^\"]*\"", "\"\"");
        String[] banned = {"\\bthrow\\b", "\\bthrows\\b", "\\btry\\b", "\\bcatch\\b", "\\bsynchronized\\b", "\\bassert\\b", "->", "::",
            "\\bimport\\b", "\\bpackage\\b", "\\bstatic\\s*\\{", "Exact\\b", "\\bRandom\\b", "\\bThread\\b", "nanoTime",
            "currentTimeMillis", "\\bprotected\\b", "\\bnative\\b", "\\bvolatile\\b", "\\bObject\\b", "\\bhashCode\\b", "\\bgetClass\\b"};
        for (String one : banned) {
            CHECK.holds("no " + one, !Pattern.compile(one).matcher(code).find());
        }
        Matcher library = Pattern.compile("\\b(System|Math|Integer|Long|Arrays)\\.(\\w+)").matcher(code);
        while (library.find()) {
            CHECK.holds(library.group() + " is in the library's part", Set.of("System.arraycopy", "Math.min", "Math.max", "Math.abs",
                "Integer.bitCount", "Arrays.fill", "Arrays.copyOf").contains(library.group()));
        }
        methodLengths(all.split("\n"));
    }

    private static void methodLengths(String[] lines) {
        int start = -1;
        String indent = "";
        for (int i = 0; i < lines.length; i++) {
            Matcher head = Pattern.compile("^( {4}| {8})[a-zA-Z].*\\) \\{$").matcher(lines[i]);
            if (start < 0 && head.matches()) {
                start = i;
                indent = head.group(1);
            } else if (start >= 0 && lines[i].equals(indent + "}")) {
                CHECK.holds("sixty lines at most: " + lines[start], i - start < 60);
                start = -1;
            }
        }
    }

    /** One room holds all calls of a run, so that nothing is made behind the constructor. */
    private static void callsMakeNothing() {
        if (!(java.lang.management.ManagementFactory.getThreadMXBean() instanceof com.sun.management.ThreadMXBean counter)) {
            return;
        }
        TwelveCars x = new TwelveCars();
        Check.people(x, "g1,g2,c3,s4,b5,g6,g7,c8,s9,b1");
        x.limit(999);
        Check.evening(x, "i0;i1;t;i3;t;i4");
        x.sheet(0, 0, 24);
        x.sheet(1, 0, 24);
        long id = Thread.currentThread().getId();
        dearCalls(x);
        long before = counter.getThreadAllocatedBytes(id);
        for (int i = 0; i < 20; i++) {
            dearCalls(x);
        }
        long made = counter.getThreadAllocatedBytes(id) - before;
        CHECK.holds("calls made " + made + " bytes", made < 20000);
    }

    private static void dearCalls(TwelveCars x) {
        x.soonest(4 + 32 + 64 + 128, 0);
        x.when(4 + 32 + 64 + 128, 1, 2);
        x.empty();
        x.least(5, 0);
        x.sure(9);
        x.worst(9, 1);
        x.image();
        x.restore();
        x.may(0);
        x.may(1);
        x.film(0, 0, 0);
        x.pour(0, 0, 12);
        x.copy(0, 0, 1, 0, 24);
        x.sheet(2, 2, 24);
        x.type(0x69353b743b6f35L, 7);
        x.evening();
        x.type(0x67317831L, 4);
        x.people();
    }
}
