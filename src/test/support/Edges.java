import java.lang.annotation.Retention;
import java.lang.annotation.RetentionPolicy;
import java.lang.reflect.InvocationTargetException;
import java.lang.reflect.Method;
import java.util.ArrayList;
import java.util.Comparator;
import java.util.List;
import java.util.NoSuchElementException;

/** Runs edge tests: each static method that bears Edge is a test of its own, with objects of its own. */
abstract class Edges {
    /** Written out here, so that a wrong constant of the class is seen. */
    static final int NONE = -1;
    static final int FREE = 16;
    static final int MIN = Integer.MIN_VALUE;
    static final int MAX = Integer.MAX_VALUE;

    @Retention(RetentionPolicy.RUNTIME)
    @interface Edge {
        int promise();

        /** The document's words that name the edge. */
        String says();
    }

    private static String current = "";
    private static int wrong = 0;

    static void due(String call, int got, int want) {
        if (got != want) {
            tell(call + " answered " + got + ", due is " + want);
        }
    }

    static void due(String call, String got, String want) {
        if (!got.equals(want)) {
            tell(call + " answered " + got + ", due is " + want);
        }
    }

    static void taken(String call, boolean got) {
        if (!got) {
            tell(call + " was refused");
        }
    }

    static void refused(String call, boolean got) {
        if (got) {
            tell(call + " was not refused");
        }
    }

    static void wrongArgument(String call, Runnable body) {
        thrown(call, body, IllegalArgumentException.class);
    }

    static void wrongState(String call, Runnable body) {
        thrown(call, body, IllegalStateException.class);
    }

    static void noElement(String call, Runnable body) {
        thrown(call, body, NoSuchElementException.class);
    }

    private static void thrown(String call, Runnable body, Class<?> want) {
        Class<?> got = null;
        try {
            body.run();
        } catch (RuntimeException e) {
            got = e.getClass();
        }
        if (got != want) {
            tell(call + " threw " + got + ", due is " + want);
        }
    }

    private static void tell(String text) {
        wrong++;
        System.out.println(current + ": " + text);
    }

    static DrawBureau playersOf(int p) {
        DrawBureau x = new DrawBureau();
        x.players(p);
        return x;
    }

    /** Players with rounds behind them, for each a text with what white made in its games. */
    static DrawBureau played(int p, String... rounds) {
        DrawBureau x = playersOf(p);
        for (int round = 0; round < rounds.length; round++) {
            playRound(x, round, rounds[round]);
        }
        return x;
    }

    static void playRound(DrawBureau x, int round, String results) {
        due("games of round " + round, x.pair(), results.length());
        for (int i = 0; i < results.length(); i++) {
            x.book(round, i, results.charAt(i) - '0');
        }
    }

    /** Runs all tests of a class, and ends with exit code 1 if one fails or a promise has none. */
    static void run(Class<?> tests, int firstPromise, int lastPromise) {
        List<Method> edges = edgesOf(tests);
        for (int promise = firstPromise; promise <= lastPromise; promise++) {
            current = tests.getName();
            if (count(edges, promise) == 0) {
                tell("promise " + promise + " has no test");
            }
        }
        for (Method edge : edges) {
            runOne(edge);
        }
        System.out.println(wrong == 0 ? edges.size() + " edges hold" : wrong + " answers are not as due");
        if (wrong != 0) {
            System.exit(1);
        }
    }

    private static List<Method> edgesOf(Class<?> tests) {
        List<Method> edges = new ArrayList<>();
        for (Method method : tests.getDeclaredMethods()) {
            if (method.isAnnotationPresent(Edge.class)) {
                edges.add(method);
            }
        }
        edges.sort(Comparator.<Method>comparingInt(m -> m.getAnnotation(Edge.class).promise())
            .thenComparing(Method::getName));
        return edges;
    }

    private static int count(List<Method> edges, int promise) {
        int count = 0;
        for (Method edge : edges) {
            if (edge.getAnnotation(Edge.class).promise() == promise) {
                count++;
            }
        }
        return count;
    }

    private static void runOne(Method edge) {
        Edge words = edge.getAnnotation(Edge.class);
        current = "promise " + words.promise() + ", " + edge.getName() + " (" + words.says() + ")";
        try {
            edge.invoke(null);
        } catch (InvocationTargetException e) {
            tell("the test ended with " + e.getCause());
        } catch (IllegalAccessException e) {
            tell("the test can't be run: " + e);
        }
    }
}
