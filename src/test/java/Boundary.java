import java.lang.reflect.Method;
import java.lang.reflect.Modifier;
import java.util.ArrayList;
import java.util.Comparator;
import java.util.IdentityHashMap;
import java.util.List;
import java.util.Map;

/**
 * Runs boundary cases. A case is a static method named after its promise ("promise6...") or after the section
 * "Terms" ("terms..."); it is found by its name, so none can be forgotten.
 */
final class Boundary {
    static final int BAD = -1, STATE = -2, FULL = -3, CLASH = -4, NONE = -9;

    /** Brings a new object into the state in which a case begins. */
    interface Setup {
        void on(DieLineChecker x);
    }

    interface Call {
        long on(DieLineChecker x);
    }

    /** A call with one argument that is to be tried. */
    interface Taking {
        long with(DieLineChecker x, int value);
    }

    static final Setup NOTHING = x -> { };

    private static final Map<Setup, List<List<String>>> UNTOUCHED = new IdentityHashMap<>();
    private static String name = "";
    private static int asked = 0;
    private static int wrong = 0;

    private Boundary() {
    }

    static List<Method> casesOf(Class<?> test) {
        List<Method> cases = new ArrayList<>();
        for (Method method : test.getDeclaredMethods()) {
            if (Modifier.isStatic(method.getModifiers()) && method.getName().matches("(promise[0-9]+|terms)[A-Z]\\w*")) {
                cases.add(method);
            }
        }
        cases.sort(Comparator.comparing(Method::getName));
        return cases;
    }

    static void runAll(Class<?> test) throws Exception {
        List<Method> cases = casesOf(test);
        int broken = 0;
        for (Method method : cases) {
            name = method.getName();
            int before = asked;
            int wrongBefore = wrong;
            method.setAccessible(true);
            method.invoke(null);
            if (asked == before) {
                wrong++;
                System.out.println(name + " asks nothing");
            }
            broken += wrong > wrongBefore ? 1 : 0;
        }
        System.out.println(cases.size() + " cases with " + asked + " answers, " + broken + " cases do not hold");
        if (wrong != 0 || cases.isEmpty()) {
            System.exit(1);
        }
    }

    static void is(String call, long got, long want) {
        asked++;
        if (got != want) {
            wrong++;
            System.out.println(name + ": " + call + " answered " + got + ", due is " + want);
        }
    }

    static DieLineChecker made(Setup setup) {
        DieLineChecker x = new DieLineChecker();
        setup.on(x);
        return x;
    }

    /** A call on a new object that has been brought into a state. */
    static void taken(String what, Setup setup, Call call, long want) {
        is(what, call.on(made(setup)), want);
    }

    /** A call that answers an error code: later calls answer as if it had not been made. */
    static void refused(String what, Setup setup, Call call, long code) {
        List<List<String>> due = UNTOUCHED.computeIfAbsent(setup, Boundary::answersOf);
        for (int run = 0; run < Later.RUNS.size(); run++) {
            DieLineChecker x = made(setup);
            is(what, call.on(x), code);
            List<String> got = Later.answers(run, x);
            asked++;
            if (!got.equals(due.get(run))) {
                wrong++;
                System.out.println(name + ": " + what + " has changed something: " + firstChange(got, due.get(run)));
            }
        }
    }

    private static List<List<String>> answersOf(Setup setup) {
        List<List<String>> answers = new ArrayList<>();
        for (int run = 0; run < Later.RUNS.size(); run++) {
            answers.add(Later.answers(run, made(setup)));
        }
        return answers;
    }

    private static String firstChange(List<String> got, List<String> due) {
        for (int i = 0; i < got.size() && i < due.size(); i++) {
            if (!got.get(i).equals(due.get(i))) {
                return got.get(i) + ", due is " + due.get(i);
            }
        }
        return got.size() + " answers, due are " + due.size();
    }

    /** Two states that no call of some runs can tell from each other. */
    static void same(String what, Setup one, Setup other, int runs) {
        for (int run = 0; run < runs; run++) {
            List<String> got = Later.answers(run, made(one));
            List<String> due = Later.answers(run, made(other));
            asked++;
            if (!got.equals(due)) {
                wrong++;
                System.out.println(name + ": " + what + " is not the same: " + firstChange(got, due));
            }
        }
    }

    /** The last arguments that are still taken, with their answers, and the first ones that are refused with BAD. */
    static void range(String what, Setup setup, Taking call, int low, long atLow, int high, long atHigh) {
        taken(what + " " + low, setup, x -> call.with(x, low), atLow);
        taken(what + " " + high, setup, x -> call.with(x, high), atHigh);
        for (int value : new int[] {low - 1, high + 1, Integer.MIN_VALUE, Integer.MAX_VALUE}) {
            refused(what + " " + value, setup, x -> call.with(x, value), BAD);
        }
    }

    static void write(DieLineChecker x, String text) {
        x.clearText();
        for (int i = 0; i < text.length(); i++) {
            x.type(text.charAt(i));
        }
    }

    /** Leaves only one kind of findings. */
    static void only(DieLineChecker x, int kind) {
        for (int i = 0; i < 8; i++) {
            x.setWeight(i, i == kind ? 1 : 0);
        }
    }

    /** Asks for the values of a finding: kind, panel, side, other panel, amount, cost. */
    static void finding(String what, DieLineChecker x, int number, int... values) {
        for (int i = 0; i < values.length; i++) {
            is(what + ": finding(" + number + ", " + i + ")", x.finding(number, i), values[i]);
        }
    }

    static int seamOf(DieLineChecker x, int p, int side, int q, int otherSide) {
        for (int k = 0; k < x.seamCount(); k++) {
            if (x.seam(k, 0) == p && x.seam(k, 1) == side && x.seam(k, 2) == q && x.seam(k, 3) == otherSide) {
                return k;
            }
        }
        return NONE;
    }
}
