import java.lang.reflect.InvocationTargetException;
import java.lang.reflect.Method;
import java.util.Arrays;
import java.util.Comparator;
import java.util.List;
import java.util.function.IntUnaryOperator;

/**
 * Runs tests of boundary cases: each is a method with the document's words in {@link Says}, named
 * promise, the promise's number, its name, and the case, joined by underlines.
 */
final class Edges {
    /** Day 0: halved (21 by 2), whole; day 1: kept, crumbs. */
    static final String FOUR = "judge ned 40 2;judge gus 20 0;nut wal 30 21 1;nut haz 8 11 0;"
            + "suit a ned wal 0;suit b gus haz 0;suit c gus wal 1;suit d ned haz 1;";

    private Edges() {
    }

    static List<Method> of(Class<?> tests) {
        return Arrays.stream(tests.getDeclaredMethods())
                .filter(m -> m.isAnnotationPresent(Says.class))
                .sorted(Comparator.comparing(Method::getName))
                .toList();
    }

    /** Each test counts by itself; one that throws has failed. */
    static void run(Class<?> tests) {
        int failed = 0;
        List<Method> all = of(tests);
        for (Method test : all) {
            int before = Check.wrongOnes();
            try {
                test.invoke(null);
            } catch (InvocationTargetException e) {
                Check.due("thrown: " + e.getCause(), false, true);
            } catch (IllegalAccessException e) {
                Check.due("not to be called: " + e, false, true);
            }
            if (Check.wrongOnes() > before) {
                failed++;
                System.out.println("FAILED: " + test.getName());
            }
        }
        System.out.println(all.size() + " edges, " + failed + " failed");
        Check.end();
    }

    /** The call is refused just outside first .. last and far from it, and not refused at its ends. */
    static void only(String what, int refused, int first, int last, IntUnaryOperator call) {
        for (int n : new int[] {Integer.MIN_VALUE, first - 1, last + 1, Integer.MAX_VALUE}) {
            Check.due(what + " " + n, refused, call.applyAsInt(n));
        }
        for (int n : new int[] {first, last}) {
            Check.due(what + " " + n + " isn't refused", true, call.applyAsInt(n) != refused);
        }
    }

    /** The call has one and the same answer for all these numbers. */
    static void same(String what, IntUnaryOperator call, int answer, int... numbers) {
        for (int n : numbers) {
            Check.due(what + " " + n, answer, call.applyAsInt(n));
        }
    }

    /** The LINES of suits first .. last, named a, b and so on, all alike. */
    static String suits(int first, int last, String told) {
        StringBuilder lines = new StringBuilder();
        for (int i = first; i <= last; i++) {
            lines.append("suit ").append((char) ('a' + i)).append(' ').append(told).append(';');
        }
        return lines.toString();
    }

    static void all(String what, int[] due, IntUnaryOperator call) {
        for (int i = 0; i < due.length; i++) {
            Check.due(what + " " + i, due[i], call.applyAsInt(i));
        }
    }
}
