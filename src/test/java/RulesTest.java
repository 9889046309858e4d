import java.lang.management.ManagementFactory;
import java.lang.reflect.Constructor;
import java.lang.reflect.Executable;
import java.lang.reflect.Field;
import java.lang.reflect.Method;
import java.lang.reflect.Modifier;
import java.nio.charset.StandardCharsets;
import java.nio.file.Files;
import java.nio.file.Path;
import java.util.ArrayList;
import java.util.Arrays;
import java.util.List;
import java.util.Set;
import java.util.TreeSet;
import java.util.regex.Matcher;
import java.util.regex.Pattern;

/** The public face, and those rules of LANGUAGE.md that can be seen from outside. */
public final class RulesTest {
    private static final String[] FACE = {
        "spell/1", "term/2", "ending/0", "dropTerm/1", "dropEnding/1", "forbid/2", "allow/1", "change/3", "termOf/2",
        "letter/3", "read/1", "wipe/0", "drift/2", "word/2", "told/1", "found/2", "chosen/2", "longest/1", "sign/1",
        "same/2", "keep/1", "goBack/1"};
    private static final String[] CONSTANTS = {"NONE", "UNKNOWN", "OUTSIDE", "NOT", "FULL"};
    private static final String[] RULED_OUT = {
        "\\bthrow\\b", "\\btry\\b", "\\bcatch\\b", "\\bsynchronized\\b", "\\bassert\\b", "\\bimport\\b", "\\bpackage\\b",
        "->", "::", "Exact\\b", "\\btoString\\b", "\\bhashCode\\b", "\\bequals\\b", "\\bstatic\\s*\\{", "\\bprotected\\b",
        "\\bObject\\b", "\\bfloat\\b", "\\bdouble\\b", "\\bnative\\b", "\\bvolatile\\b", "\\bThread\\b",
        "System\\.(?!arraycopy)"};
    private static final int MOST_LINES_OF_A_METHOD = 60;
    private static final long MOST_BYTES_OF_ALL_CALLS = 4096;

    private static final Due due = new Due();

    public static void main(String[] args) throws Exception {
        face();
        members();
        source();
        room();
        due.finish("RulesTest");
    }

    private static void face() throws Exception {
        Class<TermScan> c = TermScan.class;
        due.isTrue("the class is public and final", Modifier.isPublic(c.getModifiers()) && Modifier.isFinal(c.getModifiers()));
        Set<String> methods = new TreeSet<>();
        for (Method m : c.getDeclaredMethods()) {
            if (!Modifier.isPrivate(m.getModifiers())) {
                methods.add(m.getName() + "/" + m.getParameterCount());
                boolean plain = Modifier.isPublic(m.getModifiers()) && !Modifier.isStatic(m.getModifiers());
                due.isTrue(m + " is public and answers an int", plain && m.getReturnType() == int.class);
                for (Class<?> p : m.getParameterTypes()) {
                    due.isTrue(m + " takes ints", p == int.class);
                }
            }
        }
        due.isTrue("the methods are " + methods, methods.equals(new TreeSet<>(Arrays.asList(FACE))));
        Set<String> fields = new TreeSet<>();
        for (Field f : c.getDeclaredFields()) {
            if (!Modifier.isPrivate(f.getModifiers())) {
                fields.add(f.getName());
                int all = Modifier.PUBLIC | Modifier.STATIC | Modifier.FINAL;
                due.isTrue(f + " is a public constant", f.getModifiers() == all && f.getType() == int.class);
            }
        }
        due.isTrue("the constants are " + fields, fields.equals(new TreeSet<>(Arrays.asList(CONSTANTS))));
        Constructor<?>[] constructors = c.getDeclaredConstructors();
        due.is("constructors", constructors.length, 1);
        due.isTrue("it is public", Modifier.isPublic(constructors[0].getModifiers()));
        due.is("it takes", constructors[0].getParameterCount(), 0);
    }

    private static void members() {
        List<Class<?>> classes = new ArrayList<>(List.of(TermScan.class));
        classes.addAll(Arrays.asList(TermScan.class.getDeclaredClasses()));
        due.isTrue("some twelve classes at most", classes.size() <= 12);
        Set<String> names = new TreeSet<>();
        for (String call : FACE) {
            names.add(call.substring(0, call.indexOf('/')));
        }
        for (Class<?> c : classes) {
            if (c != TermScan.class) {
                int m = c.getModifiers();
                due.isTrue(c + " is static, not public", Modifier.isStatic(m) && !Modifier.isPublic(m));
            }
            int held = 0;
            for (Field f : c.getDeclaredFields()) {
                if (Modifier.isStatic(f.getModifiers())) {
                    due.isTrue(f + " is final", Modifier.isFinal(f.getModifiers()));
                } else {
                    held++;
                }
            }
            due.isTrue(c + " has some twenty fields at most", held <= 20);
            for (Method m : c.getDeclaredMethods()) {
                boolean ofFace = c == TermScan.class && Modifier.isPublic(m.getModifiers());
                due.isTrue(m + " bears no public method's name", ofFace || !names.contains(m.getName()));
                sevenAtMost(m);
            }
            for (Constructor<?> made : c.getDeclaredConstructors()) {
                sevenAtMost(made);
            }
        }
    }

    private static void sevenAtMost(Executable e) {
        due.isTrue(e + " takes seven at most", e.getParameterCount() <= 7);
    }

    private static void source() throws Exception {
        byte[] bytes = Files.readAllBytes(Path.of(System.getProperty("source", "src/main/java/TermScan.java")));
        for (byte b : bytes) {
            due.isTrue("signs are 1 to 127", b > 0);
        }
        String code = new String(bytes, StandardCharsets.US_ASCII);
        String bare = code.replaceAll("(?s)/\\*.*?\\*/", "").replaceAll("//[^\n]*", "");
        for (String word : RULED_OUT) {
            Matcher m = Pattern.compile(word).matcher(bare);
            due.isTrue("ruled out: " + word, !m.find());
        }
        methodsAreShort(code.split("\n"));
    }

    /** A method begins at its first line's indent and ends with a brace there. */
    private static void methodsAreShort(String[] lines) {
        Pattern first = Pattern.compile("( {4,8})(?!static final class|private static final class)\\w[^=;]*\\) \\{");
        for (int i = 0; i < lines.length; i++) {
            Matcher m = first.matcher(lines[i]);
            if (m.matches()) {
                int end = i;
                while (end < lines.length && !lines[end].equals(m.group(1) + "}")) {
                    end++;
                }
                due.isTrue("short: " + lines[i].trim(), end - i < MOST_LINES_OF_A_METHOD);
            }
        }
    }

    /** The calls of a whole run make nothing: all rows are made with the object. */
    private static void room() {
        com.sun.management.ThreadMXBean threads = (com.sun.management.ThreadMXBean) ManagementFactory.getThreadMXBean();
        run(new TermScan());
        TermScan x = new TermScan();
        long before = threads.getCurrentThreadAllocatedBytes();
        run(x);
        long made = threads.getCurrentThreadAllocatedBytes() - before;
        due.isTrue("calls made " + made + " bytes", made <= MOST_BYTES_OF_ALL_CALLS);
    }

    private static void run(TermScan x) {
        for (int i = 0; i < 15; i++) {
            x.spell('a' + i % 3);
            x.spell(i % 2 == 0 ? ' ' : 'b');
            x.spell('a' + i / 3);
            x.term(1 + i % 9, i % 2);
            x.spell('a' + i);
            x.ending();
            x.forbid(i % 8, 7);
            x.drift(10, 1 + i);
            x.change(i % 8, 1, 1);
            x.keep(i % 2);
            for (int what = 0; what < 13; what++) {
                x.told(what);
            }
            x.word(i, 3);
            x.word(i, 4);
            x.sign(i);
            x.longest(i);
            x.same(i, 0);
            x.found(i, 3);
            x.chosen(i, 3);
            x.dropTerm(0);
            x.goBack(i % 2);
            x.allow(i % 8);
        }
    }
}
