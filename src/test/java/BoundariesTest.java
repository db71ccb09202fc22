import java.lang.reflect.InvocationTargetException;
import java.lang.reflect.Method;
import java.util.ArrayList;
import java.util.Comparator;
import java.util.List;

/**
 * Runs each boundary case of the document: every method of the classes below whose name begins with "promise" is a
 * test of one sentence of that promise. With a number as its argument it runs the tests of that promise alone.
 */
public final class BoundariesTest {
    private static final Class<?>[] PLACES = {
        PeopleEdges.class, TapeEdges.class, LawEdges.class, OrderEdges.class, HandEdges.class, RingEdges.class,
        SeenEdges.class, DayEdges.class};
    private static final int PROMISES = 39;

    public static void main(String[] args) throws IllegalAccessException {
        int only = args.length > 0 ? Integer.parseInt(args[0]) : 0;
        Due due = new Due("BoundariesTest");
        int[] met = new int[PROMISES + 1];
        for (Method test : tests()) {
            int promise = promiseOf(test);
            due.part(test.getName());
            if (promise < 1 || promise > PROMISES) {
                due.fail("is named after no promise");
            } else if (only == 0 || only == promise) {
                met[promise]++;
                run(test, due);
            }
        }
        int all = 0;
        for (int promise = 1; promise <= PROMISES; promise++) {
            all += met[promise];
            if (only == 0 && met[promise] == 0) {
                due.part("promise " + promise);
                due.fail("has no test");
            }
        }
        System.out.println("BoundariesTest: " + all + " tests");
        due.close();
    }

    private static List<Method> tests() {
        List<Method> found = new ArrayList<>();
        for (Class<?> place : PLACES) {
            for (Method method : place.getDeclaredMethods()) {
                if (method.getName().startsWith("promise")) {
                    found.add(method);
                }
            }
        }
        found.sort(Comparator.comparingInt(BoundariesTest::promiseOf).thenComparing(Method::getName));
        return found;
    }

    private static int promiseOf(Method test) {
        String name = test.getName();
        int end = name.indexOf('_');
        String number = end < 0 ? "" : name.substring("promise".length(), end);
        return number.matches("[0-9]{1,3}") ? Integer.parseInt(number) : 0;
    }

    private static void run(Method test, Due due) throws IllegalAccessException {
        int before = due.asked();
        try {
            test.invoke(null, due);
        } catch (InvocationTargetException thrown) {
            due.fail("threw " + thrown.getCause());
        }
        if (due.asked() == before) {
            due.fail("asked nothing");
        }
    }
}
