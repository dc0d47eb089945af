import java.lang.reflect.InvocationTargetException;
import java.lang.reflect.Method;
import java.util.ArrayList;
import java.util.Comparator;
import java.util.List;

/** Counts answers that are not the due ones, prints each, and ends the test accordingly. */
final class Due {
    private static final int[] CLIENT_WHATS = {0, 1, 2, 3, 10, 11, 12};
    private static final int[] SERVER_WHATS = {0, 1, 2, 3, 10, 11, 12, 20, 21, 22};
    private static final int[] TRANSACTION_WHATS = {0, 1, 2, 3, 10, 11, 12};

    private final String test;
    private String during = "";
    private int asked = 0;
    private int wrong = 0;

    Due(String test) {
        this.test = test;
    }

    /** Runs every test of a class that stands for a sentence, and ends the program. */
    static void runSentences(Class<?> tests) {
        Due due = new Due(tests.getSimpleName());
        for (Method m : sentencesOf(tests)) {
            due.runSentence(m);
        }
        due.end();
    }

    static List<Method> sentencesOf(Class<?> tests) {
        List<Method> found = new ArrayList<>();
        for (Method m : tests.getDeclaredMethods()) {
            if (m.isAnnotationPresent(Says.class)) {
                found.add(m);
            }
        }
        found.sort(Comparator.comparing(Method::getName));
        return found;
    }

    private void runSentence(Method m) {
        int askedBefore = asked;
        during("." + m.getName() + " (\"" + m.getAnnotation(Says.class).value() + "\")");
        try {
            m.invoke(null, this);
        } catch (InvocationTargetException e) {
            fail("ended with " + e.getCause() + " at " + Store.latestCall());
        } catch (IllegalAccessException e) {
            fail("can't be run: " + e);
        }
        if (asked == askedBefore) {
            fail("asked nothing");
        }
    }

    /** Names what the next answers belong to. */
    void during(String part) {
        during = part;
    }

    /** Of the latest call of a Store. */
    void is(int got, int want) {
        asked++;
        if (got != want) {
            fail(Store.latestCall() + " answered " + got + ", due is " + want);
        }
    }

    void is(boolean got, boolean want) {
        is(got ? 1 : 0, want ? 1 : 0);
    }

    void is(String call, int got, int want) {
        asked++;
        if (got != want) {
            fail(call + " answered " + got + ", due is " + want);
        }
    }

    void is(String call, boolean got, boolean want) {
        is(call, got ? 1 : 0, want ? 1 : 0);
    }

    private void fail(String how) {
        wrong++;
        System.out.println(test + during + ": " + how);
    }

    /** Looks at all that can be asked of two objects, which must have come to be alike. */
    void alike(String after, Store x, Store y) {
        for (int i = 0; i < 6; i++) {
            isAlike(after, x.value(i), y.value(i));
            for (int what : CLIENT_WHATS) {
                isAlike(after, x.client(i, what), y.client(i, what));
            }
            for (int what : SERVER_WHATS) {
                isAlike(after, x.server(i, what), y.server(i, what));
            }
            for (int k = i % 2; k < 8; k += 2) {
                isAlike(after, x.version(i, k, 0), y.version(i, k, 0));
            }
            for (int to = 0; to < 6; to++) {
                if (Steps.areLinked(i, to)) {
                    isAlike(after, x.link(i, to, 0), y.link(i, to, 0));
                    isAlike(after, x.link(i, to, 1), y.link(i, to, 1));
                    isAlike(after, x.link(i, to, 2), y.link(i, to, 2));
                }
            }
        }
        alikeTransactions(after, x, y);
    }

    private void alikeTransactions(String after, Store x, Store y) {
        int n = 0;
        while (y.transaction(n, 0) >= 0) {
            for (int what : TRANSACTION_WHATS) {
                isAlike(after, x.transaction(n, what), y.transaction(n, what));
            }
            for (int k = 0; k < 8; k++) {
                isAlike(after, x.written(n, k), y.written(n, k));
            }
            n++;
        }
        isAlike(after, x.transaction(n, 0), y.transaction(n, 0));
    }

    private void isAlike(String after, int got, int want) {
        is("after " + after + " " + Store.latestCall(), got, want);
    }

    /** Ends the program, with exit code 1 if an answer was wrong or none was asked for. */
    void end() {
        System.out.println(test + ": " + asked + " answers, " + wrong + " wrong");
        if (wrong != 0 || asked == 0) {
            System.exit(1);
        }
    }
}
