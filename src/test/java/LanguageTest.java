import java.lang.reflect.Constructor;
import java.lang.reflect.Field;
import java.lang.reflect.Method;
import java.lang.reflect.Modifier;
import java.nio.file.Files;
import java.nio.file.Path;
import java.util.ArrayList;
import java.util.List;
import java.util.Set;
import java.util.TreeSet;
import java.util.regex.Matcher;
import java.util.regex.Pattern;

/** The face, and what can be seen of shared/LANGUAGE.md's rules from the source and the class. */
public final class LanguageTest {
    private static final Due due = new Due();
    private static final String[] FACE = {"int person()", "int note(int,int,int,int,int)", "int doubt(int,boolean)", "int type(long,int)",
        "int clear()", "int read()", "int write(int,int)", "int erase(int)", "int fault(int)", "int holder(int,int)", "int in(int,int,int)",
        "int own(int,int,int)", "int net(int,int,int)", "int owed(int,int)", "int answers(int,int)", "int ask(int,int,int)",
        "int best(int,int)", "int line(int)", "int unline()", "int served(int,int)", "int orders(int,int,int)", "int rests(int,int)",
        "int wise(int,int,int)", "int sure(int,int,int,int)", "int hangs(int,int,int)", "int parted(int)", "long part(int)",
        "int told(int,int)", "int image(int)", "int from(int)", "int count(int)", "long digest()"};

    public static void main(String[] args) throws Exception {
        face();
        for (Class<?> c : SonsPurse.class.getDeclaredClasses()) inside(c);
        source(Files.readString(Path.of("src/main/java/SonsPurse.java")));
        room();
        due.end();
    }

    private static void no(String what, boolean is) {
        due.is(what, is ? 1 : 0, 0);
    }

    private static void face() {
        Set<String> found = new TreeSet<>();
        Set<String> names = new TreeSet<>();
        for (Method m : SonsPurse.class.getDeclaredMethods()) {
            if (!Modifier.isPublic(m.getModifiers())) continue;
            found.add(m.getReturnType() + " " + m.getName() + List.of(m.getParameterTypes()).toString().replace('[', '(').replace(']', ')').replace(" ", ""));
            names.add(m.getName());
            no("static " + m, Modifier.isStatic(m.getModifiers()));
        }
        no("another face: " + found, !found.equals(new TreeSet<>(List.of(FACE))));
        for (Method m : SonsPurse.class.getDeclaredMethods()) {
            boolean isFace = Modifier.isPublic(m.getModifiers());
            no("not private: " + m, !isFace && !Modifier.isPrivate(m.getModifiers()));
            no("the name of a public one: " + m, !isFace && names.contains(m.getName()));
        }
        for (Class<?> c : SonsPurse.class.getDeclaredClasses()) {
            for (Method m : c.getDeclaredMethods()) no("the name of a public one: " + m, names.contains(m.getName()));
        }
        for (Field f : SonsPurse.class.getDeclaredFields()) {
            boolean isConstant = Set.of("NONE", "BAD", "NO", "FULL").contains(f.getName());
            no("field " + f, isConstant ? !Modifier.isPublic(f.getModifiers()) : !Modifier.isPrivate(f.getModifiers()));
        }
        Constructor<?>[] made = SonsPurse.class.getDeclaredConstructors();
        no("constructors", made.length != 1 || !Modifier.isPublic(made[0].getModifiers()));
        no("not final", !Modifier.isFinal(SonsPurse.class.getModifiers()));
        no("too many classes", SonsPurse.class.getDeclaredClasses().length > 11);
        inside(SonsPurse.class);
    }

    private static void inside(Class<?> c) {
        no("public or not static: " + c, c != SonsPurse.class && (Modifier.isPublic(c.getModifiers()) || !Modifier.isStatic(c.getModifiers())));
        int fields = 0;
        for (Field f : c.getDeclaredFields()) {
            if (!Modifier.isStatic(f.getModifiers())) fields++;
            else no("static, not final: " + f, !Modifier.isFinal(f.getModifiers()));
        }
        no("too many fields: " + c, fields > 20);
        for (Method m : c.getDeclaredMethods()) no("parameters: " + m, m.getParameterCount() > 7);
    }

    private static void source(String source) {
        String code = source.replaceAll("(?s)/\\*.*?\\*/", "").replaceAll("//.*", "").replaceAll("'(\\\\.|[^\\\\'])'", "' '").replaceAll("\"[^\"]*\"", "\"\"");
        for (String word : new String[] {"throw", "throws", "try", "catch", "synchronized", "assert", "import", "package", "->", "::", "Exact",
            "instanceof", "float", "double", "String.format", "System.out", "@", "record", "hashCode", "toString", "while (true)", "for (;;)"}) {
            String edge = Character.isLetter(word.charAt(0)) ? "\\b" : "";
            no("in the source: " + word, Pattern.compile(edge + Pattern.quote(word) + (edge.isEmpty() || word.endsWith(")") ? "" : edge)).matcher(code).find());
        }
        no("a library's field, where its functions alone are listed", Pattern.compile("\\b(Integer|Long|Math)\\.[A-Z]").matcher(code).find());
        Matcher signs = Pattern.compile("[^\\x0a\\x20-\\x7e]").matcher(source);
        no("a sign that is not plain", signs.find());
        int first = 0;
        String[] lines = source.split("\n");
        for (int k = 0; k < lines.length; k++) {
            if (lines[k].matches(" {4,8}[A-Za-z].*\\) \\{")) first = k;
            if (lines[k].matches(" {4,8}\\}")) no("a long method at line " + (first + 1), k - first > 60);
        }
    }

    /** No call makes anything: all rows are made once. */
    private static void room() {
        com.sun.management.ThreadMXBean threads = (com.sun.management.ThreadMXBean) java.lang.management.ManagementFactory.getThreadMXBean();
        List<SonsPurse> all = new ArrayList<>();
        for (int k = 0; k < 3; k++) all.add(RoomRun.begun());
        for (SonsPurse x : all) {
            long thread = Thread.currentThread().getId();
            long before = threads.getThreadAllocatedBytes(thread);
            RoomRun.ask(x);
            long made = threads.getThreadAllocatedBytes(thread) - before;
            no("calls made " + made + " bytes", made > 2000);
        }
    }

    private static final class RoomRun {
        static SonsPurse begun() {
            SonsPurse x = Due.persons(3);
            Due.notes(x, new int[][] {{0, 0, 1, 0, 0}, {0, 0, 2, 1, 0}, {0, 8, 1, 0, 0}, {0, 1, 1, 0, 300}, {0, 1, 2, 0, 70}, {0, 11, 1, 0, 5},
                {1, 4, 1, 0, 100}, {1, 4, 1, 0, 100}, {1, 4, 1, 0, 100}, {1, 4, 1, 1, 100}, {2, 2, 1, 0, 30}});
            for (int k = 0; k < 4; k++) x.line(k);
            for (int n : new int[] {2, 3, 4, 5, 10}) x.doubt(n, true);
            Due.write(x, 0, "g+s-o-w+(h>0)*h");
            return x;
        }

        static void ask(SonsPurse x) {
            for (int k = 0; k < 8; k++) {
                for (int i = 0; i < 4; i++) {
                    x.hangs(i, i, 3);
                    x.sure(i, i, k % 2, 3);
                    x.orders(i, k % 2, 3);
                    x.ask(i, i, 3);
                    x.best(i, 3);
                }
                x.rests(k - 1, 3);
                x.wise(1, 300 * k + 1, 3);
                x.parted(3);
                x.digest();
                x.image(k % 2);
                x.from(k % 2);
                x.write(1, 'g');
                x.type(0x302067697665L, 6);
                x.read();
            }
        }
    }
}
