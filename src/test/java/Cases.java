import java.lang.reflect.InvocationTargetException;
import java.lang.reflect.Method;
import java.util.ArrayList;
import java.util.Comparator;
import java.util.List;

/**
 * The cases of a test: each method that is named after a promise or a term of the document, as
 * promise2WideIsOne or termSquaresOfThree, is run by itself and makes objects of its own.
 */
abstract class Cases {
    static final Class<?> NO_CELL = IndexOutOfBoundsException.class;
    static final Class<?> NO_ARGUMENT = IllegalArgumentException.class;
    static final Class<?> NO_STATE = IllegalStateException.class;

    final Check check = new Check();

    final void run() {
        List<Method> cases = named();
        for (Method method : cases) {
            check.begin(method.getName());
            runCase(method);
            System.out.println("  ran " + method.getName());
        }
        check.begin(getClass().getName());
        check.due("some cases", 1, cases.isEmpty() ? 0 : 1);
        System.out.println(cases.size() + " cases in " + getClass().getName());
        check.end();
    }

    private List<Method> named() {
        List<Method> cases = new ArrayList<>();
        for (Method method : getClass().getDeclaredMethods()) {
            if (method.getName().matches("(promise[0-9]|term[A-Z]).*")) {
                cases.add(method);
            }
        }
        cases.sort(Comparator.comparing(Method::getName));
        return cases;
    }

    private void runCase(Method method) {
        String outcome = "ended";
        try {
            method.invoke(this);
        } catch (InvocationTargetException thrown) {
            outcome = String.valueOf(thrown.getCause());
        } catch (IllegalAccessException hidden) {
            outcome = "the case is private";
        }
        check.dueText("the case", "ended", outcome);
    }
}
