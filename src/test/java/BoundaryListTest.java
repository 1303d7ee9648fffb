import java.lang.reflect.Method;
import java.util.HashSet;
import java.util.Set;

/** That every promise, and the section "Terms", has boundary cases, and that no two cases have the same name. */
public final class BoundaryListTest {
    private static final Class<?>[] TESTS = {
        BoundaryTextTest.class, BoundaryDesignTest.class, BoundaryImageTest.class, BoundaryStateTest.class,
        BoundaryFlatTest.class, BoundaryFoldedTest.class, BoundaryFindingsTest.class
    };
    private static final int PROMISES = 46;

    public static void main(String[] args) {
        Due due = new Due();
        Set<String> names = new HashSet<>();
        int[] cases = new int[PROMISES + 1];
        for (Class<?> test : TESTS) {
            for (Method method : Boundary.casesOf(test)) {
                due.is(method.getName() + " is there once", names.add(method.getName()) ? 1 : 0, 1);
                cases[promiseOf(method.getName())]++;
            }
        }
        for (int promise = 0; promise <= PROMISES; promise++) {
            String what = promise == 0 ? "Terms" : "promise " + promise;
            due.is(what + " has boundary cases", cases[promise] > 0 ? 1 : 0, 1);
        }
        due.end();
    }

    /** The number of the promise after which a case is named; 0 for "Terms". */
    private static int promiseOf(String name) {
        return name.startsWith("terms") ? 0 : Integer.parseInt(name.replaceAll("^promise([0-9]+).*", "$1"));
    }
}
