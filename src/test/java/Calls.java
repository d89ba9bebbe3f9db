import java.lang.reflect.InvocationTargetException;
import java.lang.reflect.Method;
import java.lang.reflect.Modifier;

/** A run of calls on one new object, each written as text with the answer that is due (a boolean counts 1 or 0). */
final class Calls {
    /** What an object answers behind so many calls is free: a run that is longer would test nothing. */
    private static final int MOST_CALLS = 512;

    private static int wrong = 0;
    private static int made = 0;

    private final String title;
    private final ParkRows park = new ParkRows();
    private int madeHere = 0;

    private Calls(String title) {
        this.title = title;
    }

    static Calls onNew(String title) {
        return new Calls(title);
    }

    Calls due(String call, int want) {
        String got = told(call);
        if (!got.equals(String.valueOf(want))) {
            isWrong(call + " answered " + got + ", due is " + want);
        }
        return this;
    }

    /** What the call answers, as text, without any answer that is due. */
    String told(String call) {
        made++;
        madeHere++;
        if (madeHere == MOST_CALLS + 1) {
            isWrong("this run has more than " + MOST_CALLS + " calls");
        }
        return answer(call);
    }

    void isWrong(String what) {
        wrong++;
        System.out.println(title + ": " + what);
    }

    /** So many groups more, all of the same number of people; the first of them gets the number first. */
    Calls groups(int first, int howMany, int people) {
        for (int i = 0; i < howMany; i++) {
            due("group(" + people + ")", first + i);
        }
        return this;
    }

    /** The same call for each number from first to last in place of its sign #, with answers that go on by one from want. */
    Calls dueInOrder(String call, int first, int last, int want) {
        for (int i = first; i <= last; i++) {
            due(call.replace("#", String.valueOf(i)), want + i - first);
        }
        return this;
    }

    /** The same call for each number from first to last in place of its sign #, with an answer for each. */
    Calls dueEach(String call, int first, int... wants) {
        for (int i = 0; i < wants.length; i++) {
            due(call.replace("#", String.valueOf(first + i)), wants[i]);
        }
        return this;
    }

    static void finish() {
        System.out.println(made + " calls, " + wrong + " answers that are not as due");
        if (wrong != 0 || made == 0) {
            System.exit(1);
        }
    }

    private String answer(String call) {
        int open = call.indexOf('(');
        Method method = methodNamed(call.substring(0, open));
        String inside = call.substring(open + 1, call.lastIndexOf(')')).trim();
        String[] texts = inside.isEmpty() ? new String[0] : inside.split(",");
        Class<?>[] types = method.getParameterTypes();
        Object[] values = new Object[types.length];
        for (int i = 0; i < types.length; i++) {
            String text = texts[i].trim();
            values[i] = types[i] == boolean.class ? (Object) Boolean.valueOf(text) : (Object) Integer.valueOf(text);
        }
        try {
            Object got = method.invoke(park, values);
            return got instanceof Boolean b ? (b ? "1" : "0") : String.valueOf(got);
        } catch (InvocationTargetException e) {
            return "an exception: " + e.getCause();
        } catch (IllegalAccessException e) {
            throw new IllegalStateException(e);
        }
    }

    private static Method methodNamed(String name) {
        for (Method method : ParkRows.class.getDeclaredMethods()) {
            if (method.getName().equals(name) && Modifier.isPublic(method.getModifiers())) {
                return method;
            }
        }
        throw new IllegalStateException("no public method " + name);
    }
}
