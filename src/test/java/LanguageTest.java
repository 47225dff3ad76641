import java.io.IOException;
import java.lang.reflect.Constructor;
import java.lang.reflect.Field;
import java.lang.reflect.Member;
import java.lang.reflect.Method;
import java.lang.reflect.Modifier;
import java.nio.file.Files;
import java.nio.file.Path;
import java.util.ArrayList;
import java.util.List;
import java.util.Set;
import java.util.TreeSet;
import java.util.regex.Matcher;
import java.util.regex.Pattern;

/** The document's face, and the rules of ../shared/LANGUAGE.md as far as they can be seen from outside. */
public final class LanguageTest {
    private static final String[] FACE = {
        "int place(int)", "int move()", "int arc(int,int,int,int)", "int tokens(int,int)", "int make(int)", "int run(int,int)",
        "int ofPlace(int,int)", "int ofMove(int,int)", "int ofArc(int,int,int)", "int count(int)", "int share(int)", "long mean(int)",
        "int kept(int,int)", "int keptMany()", "int trap(int,int)", "int reached(int)", "int fewest(int,int)", "int growth(int)",
        "int bound(int)", "int put(long)", "int wipe()", "int fault()", "int carryOut()", "int undo()", "int save(int)", "int restore(int)"
    };
    private static final Set<String> CONSTANTS = Set.of("NO_SUCH", "BAD_VALUE", "BAD_TEXT", "TOO_MANY", "NOT_POSSIBLE", "NONE");

    private static int wrong = 0;

    private static void must(boolean holds, String what) {
        if (!holds) {
            wrong++;
            System.out.println("not so: " + what);
        }
    }

    private static void face() {
        Class<?> c = TokenNets.class;
        must(Modifier.isPublic(c.getModifiers()) && Modifier.isFinal(c.getModifiers()), "the class is public and final");
        Set<String> found = new TreeSet<>();
        for (Method m : c.getDeclaredMethods()) {
            if (Modifier.isPrivate(m.getModifiers())) {
                continue;
            }
            must(Modifier.isPublic(m.getModifiers()) && !Modifier.isStatic(m.getModifiers()), m + " is of the face");
            List<String> types = new ArrayList<>();
            for (Class<?> type : m.getParameterTypes()) {
                types.add(type.getName());
            }
            found.add(m.getReturnType().getName() + " " + m.getName() + "(" + String.join(",", types) + ")");
        }
        must(found.equals(new TreeSet<>(List.of(FACE))), "the methods are those of the document: " + found);
        Constructor<?>[] made = c.getDeclaredConstructors();
        must(made.length == 1 && Modifier.isPublic(made[0].getModifiers()) && made[0].getParameterCount() == 0, "one public constructor");
        Set<String> constants = new TreeSet<>();
        for (Field f : c.getDeclaredFields()) {
            if (!Modifier.isPrivate(f.getModifiers())) {
                constants.add(f.getName());
                must(Modifier.isPublic(f.getModifiers()) && Modifier.isStatic(f.getModifiers()) && f.getType() == int.class, f + " is of the face");
            }
        }
        must(constants.equals(new TreeSet<>(CONSTANTS)), "the constants are those of the document: " + constants);
    }

    private static void insides() {
        Set<String> names = new TreeSet<>();
        for (String method : FACE) {
            names.add(method.substring(method.indexOf(' ') + 1, method.indexOf('(')));
        }
        Class<?>[] inside = TokenNets.class.getDeclaredClasses();
        must(inside.length <= 11, "at most twelve classes");
        for (Class<?> c : inside) {
            must(Modifier.isStatic(c.getModifiers()) && !Modifier.isPublic(c.getModifiers()), c + " is static and not public");
            check(c, names);
        }
        check(TokenNets.class, names);
    }

    private static void check(Class<?> c, Set<String> names) {
        int own = 0;
        for (Field f : c.getDeclaredFields()) {
            own += Modifier.isStatic(f.getModifiers()) ? 0 : 1;
            must(!Modifier.isStatic(f.getModifiers()) || Modifier.isFinal(f.getModifiers()), f + " is final");
        }
        must(own <= 20, c + " has at most twenty fields");
        for (Method m : c.getDeclaredMethods()) {
            must(m.getParameterCount() <= 7, m + " takes at most seven parameters");
            must(c == TokenNets.class && isOpen(m) || !names.contains(m.getName()), m + " has a name of its own");
            must(!m.isSynthetic(), m + " is written in the file");
        }
    }

    private static boolean isOpen(Member m) {
        return Modifier.isPublic(m.getModifiers());
    }

    private static void words(String source) {
        String code = source.replaceAll("(?s)/\\*.*?\\*/", "").replaceAll("//[^\n]*", "").replaceAll("'[^']*'", "0");
        for (String word : new String[] {"throw", "throws", "try", "catch", "finally", "synchronized", "assert", "package", "protected",
                "var", "Object", "Exception", "Random", "System\\.out", "System\\.exit", "Thread", "volatile", "native", "transient"}) {
            must(!Pattern.compile("\\b" + word + "\\b").matcher(code).find(), "no " + word);
        }
        must(!code.contains("->") && !code.contains("::") && !code.contains("@"), "no lambda, method reference or annotation");
        Matcher imports = Pattern.compile("import ([^;]*);").matcher(code);
        while (imports.find()) {
            must(imports.group(1).equals("java.util.Arrays"), "no import of " + imports.group(1));
        }
        Matcher library = Pattern.compile("\\b(Arrays|Math|Integer|Long|System|String|StringBuilder|Float|Double)\\.(\\w+)").matcher(code);
        Set<String> listed = Set.of("Arrays.copyOf", "Arrays.fill", "Math.max", "Math.min", "Integer.bitCount", "System.arraycopy");
        while (library.find()) {
            must(listed.contains(library.group()), library.group() + " is listed");
        }
        must(!Pattern.compile("while|goto").matcher(code).find(), "each loop is counted");
    }

    /** A run may fill the room with at most 7.3 million fields and elements: constructors take nearly all of it. */
    private static void room() {
        com.sun.management.ThreadMXBean threads = (com.sun.management.ThreadMXBean) java.lang.management.ManagementFactory.getThreadMXBean();
        long id = Thread.currentThread().getId();
        TokenNets x = use(new TokenNets());
        long before = threads.getThreadAllocatedBytes(id);
        TokenNets y = new TokenNets();
        long made = threads.getThreadAllocatedBytes(id) - before;
        must(made < 57_000, "512 objects have room, of less than 57000 bytes each: " + made);
        use(y);
        before = threads.getThreadAllocatedBytes(id);
        use(y);
        use(x);
        long used = threads.getThreadAllocatedBytes(id) - before;
        must(used < 1_000, "calls make nothing: " + used);
    }

    private static TokenNets use(TokenNets x) {
        x.put(0x70313B70323B6D3CL);
        x.put(0x303E31L);
        x.carryOut();
        x.carryOut();
        x.wipe();
        x.move();
        x.arc(0, 0, 1, 2);
        x.tokens(0, 3);
        x.make(0);
        x.run(5, 9);
        x.save(0);
        x.restore(0);
        for (int what = -1; what < 10; what++) {
            x.ofPlace(0, what);
            x.ofMove(0, what);
            x.ofArc(0, 0, what);
            x.count(what);
            x.share(0);
            x.mean(what);
            x.kept(0, what);
            x.trap(1, what);
            x.reached(what);
            x.fewest(0, what);
            x.growth(what);
            x.bound(what);
        }
        x.keptMany();
        x.fault();
        x.undo();
        return x;
    }

    public static void main(String[] args) throws IOException {
        face();
        insides();
        words(Files.readString(Path.of("src/main/java/TokenNets.java")));
        room();
        System.exit(wrong == 0 ? 0 : 1);
    }
}
