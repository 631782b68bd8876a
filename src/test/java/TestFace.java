import java.lang.reflect.Constructor;
import java.lang.reflect.Field;
import java.lang.reflect.Member;
import java.lang.reflect.Method;
import java.lang.reflect.Modifier;
import java.nio.file.Files;
import java.nio.file.Path;
import java.util.ArrayList;
import java.util.Arrays;
import java.util.HashSet;
import java.util.List;
import java.util.Set;
import java.util.TreeSet;

/** The public face is the document's and no more; and nothing is made by calls that must be small. */
public final class TestFace {
    private static final String FACE = """
            public int feed(int,int,int,int,int)
            public int text(int)
            public int fault(int)
            public int named(int,int)
            public int suit(int,int) throws java.lang.IndexOutOfBoundsException,java.util.NoSuchElementException
            public int judge(int,int)
            public int nut(int,int)
            public int force(int,int)
            public int slack(int,int)
            public int verdict(int,int)
            public long law(int,int,int)
            public boolean give(int,int)
            public boolean stone(int,boolean)
            public boolean put(int,int)
            public int oil(int)
            public int go(int)
            public int ahead(int,int)
            public int deal(int,int)
            public int order(int)
            public int enough(int,int)
            public int spoil(int,int)
            public int rests(int)
            public int rest(int,int)
            public int twins()
            public int likely(int,int)
            public int wholeBy(int)
            public int docket(int)
            public int crown()
            public int nextTooth()
            public int note(int,int,boolean)
            public int out(int)
            public boolean known(int)
            public int levers()
            public int chance(int,int,int)
            public int tried(int,int,int)
            public int undo()
            public int keep()
            public int back()
            public int count(int)
            """;

    public static void main(String[] args) throws Exception {
        face();
        nothingElseIsOpen();
        noPrivateMethodBearsAPublicName();
        theSource();
        roomOfCalls();
        Check.end();
    }

    private static void face() {
        Set<String> due = new TreeSet<>(FACE.lines().toList());
        Set<String> found = new TreeSet<>();
        for (Method m : JawBench.class.getDeclaredMethods()) {
            if (Modifier.isPublic(m.getModifiers())) {
                found.add(m.toString().replace("JawBench.", ""));
            }
        }
        Check.due("the public methods " + found, true, due.equals(found));
        Check.due("public and final", Modifier.PUBLIC | Modifier.FINAL, JawBench.class.getModifiers());
        Check.due("NONE", -1, JawBench.NONE);
    }

    private static void nothingElseIsOpen() throws Exception {
        for (Field f : JawBench.class.getDeclaredFields()) {
            boolean isNone = f.getName().equals("NONE");
            Check.due("field " + f, isNone ? Modifier.PUBLIC | Modifier.STATIC | Modifier.FINAL : Modifier.PRIVATE,
                    isNone ? f.getModifiers() : f.getModifiers() & (Modifier.PUBLIC | Modifier.PROTECTED | Modifier.PRIVATE));
        }
        List<Member> others = new ArrayList<>();
        for (Method m : JawBench.class.getDeclaredMethods()) {
            if (!Modifier.isPublic(m.getModifiers()) && !Modifier.isPrivate(m.getModifiers())) {
                others.add(m);
            }
        }
        Check.due("other open members " + others, 0, others.size());
        Constructor<?>[] made = JawBench.class.getDeclaredConstructors();
        Check.due("one constructor", 1, made.length);
        Check.due("public", Modifier.PUBLIC, made[0].getModifiers());
        Check.due("classes", true, JawBench.class.getDeclaredClasses().length <= 11);
        for (Class<?> inside : JawBench.class.getDeclaredClasses()) {
            Check.due("static " + inside, true, Modifier.isStatic(inside.getModifiers()));
            Check.due("fields of " + inside, true, Arrays.stream(inside.getDeclaredFields())
                    .filter(f -> !Modifier.isStatic(f.getModifiers())).count() <= 20);
        }
    }

    private static void noPrivateMethodBearsAPublicName() {
        Set<String> names = new HashSet<>();
        for (Method m : JawBench.class.getDeclaredMethods()) {
            if (Modifier.isPublic(m.getModifiers())) {
                names.add(m.getName());
            }
        }
        List<Method> all = new ArrayList<>(List.of(JawBench.class.getDeclaredMethods()));
        for (Class<?> inside : JawBench.class.getDeclaredClasses()) {
            all.addAll(List.of(inside.getDeclaredMethods()));
        }
        for (Method m : all) {
            boolean isFace = Modifier.isPublic(m.getModifiers());
            Check.due("name of " + m, false, !isFace && names.contains(m.getName()));
            Check.due("parameters of " + m, true, m.getParameterCount() <= 7);
        }
    }

    /** Some of LANGUAGE.md's rules, as far as the bare text of the source can tell. */
    private static void theSource() throws Exception {
        String source = Files.readString(Path.of("src/main/java/JawBench.java"));
        for (String word : new String[] {"package ", "try {", "catch (", "finally", "synchronized", "assert ", "->", "::",
            "Random", "nanoTime", "currentTimeMillis", "Exact(", "instanceof", "hashCode", "toString", "equals("}) {
            Check.due("the source has " + word, false, source.contains(word));
        }
        Check.due("one import", 1, source.lines().filter(l -> l.startsWith("import ")).count());
        Check.due("one class of the file", 1, source.lines().filter(l -> l.matches("(public )?(final )?class .*")).count());
    }

    /** All calls of a run live in one room: what calls make is counted, not only what they keep. */
    private static void roomOfCalls() {
        JawBench x = Check.told(TestCourt.FOUR + "law force jaw+load;law wear load;rest 3;");
        com.sun.management.ThreadMXBean room =
                (com.sun.management.ThreadMXBean) java.lang.management.ManagementFactory.getThreadMXBean();
        long id = Thread.currentThread().getId();
        work(x);
        room.getThreadAllocatedBytes(id);
        long before = room.getThreadAllocatedBytes(id);
        for (int i = 0; i < 20; i++) {
            work(x);
        }
        long made = room.getThreadAllocatedBytes(id) - before;
        Check.due("bytes made by calls " + made, true, made < 20000);
        before = room.getThreadAllocatedBytes(id);
        JawBench other = new JawBench();
        made = room.getThreadAllocatedBytes(id) - before;
        Check.due("bytes made by a new object " + made, true, made < 20000 && other.count(0) == 0);
    }

    private static void work(JawBench x) {
        x.ahead(99, 0);
        x.deal(60, 0);
        x.order(0);
        x.enough(0, 0);
        x.spoil(60, 0);
        x.rests(0);
        x.twins();
        x.likely(0, 0);
        x.nextTooth();
        x.levers();
        x.chance(1, 99, 5);
        x.tried(1, 0, 99);
        x.keep();
        x.oil(1);
        x.undo();
        x.back();
        x.feed(0, 0, 0, 0, 0);
        x.text(20);
        x.text(-1);
    }
}
