import java.lang.annotation.ElementType;
import java.lang.annotation.Retention;
import java.lang.annotation.RetentionPolicy;
import java.lang.annotation.Target;
import java.lang.reflect.InvocationTargetException;
import java.lang.reflect.Method;
import java.util.ArrayList;
import java.util.Arrays;
import java.util.List;
import java.util.function.Supplier;

/** What the tests of the document's sentences share: how they are told and run, and how objects for them are made. */
final class Edges {
    /** The sentence that a test is for: words of the document, of a promise or (0) of its other parts. */
    @Retention(RetentionPolicy.RUNTIME)
    @Target(ElementType.METHOD)
    @interface Says {
        int promise() default 0;

        String words();
    }

    interface Call {
        long on(LeaningTrees x);
    }

    interface CallOfOne {
        long on(LeaningTrees x, int a);
    }

    static final int NONE = -1;
    static final int BAD = -2;
    static final int STATE = -3;
    static final int FULL = -4;
    static final int NOT = -5;
    static final int EMPTY = -6;
    static final int OTHER = -7;
    static final int MISSING = -11;
    static final int PLACE = -13;
    static final int BELOW = -14;
    static final long VOID = Long.MIN_VALUE;

    /** How many trees of 0, 1, .. 7 nodes there are, and the digits of the greatest. */
    static final int[] MANY = {0, 1, 2, 5, 14, 42, 132, 429};
    static final int[] GREATEST = {0, 0, 10, 210, 3210, 43210, 543210, 6543210};

    /** Numbers that no call takes for a node, a shelf, a list, a place or a question. */
    static final int[] FAR = {Integer.MIN_VALUE, Integer.MIN_VALUE + 1, -1000000, -257, -256, -255, 1000000,
        Integer.MAX_VALUE - 1, Integer.MAX_VALUE, 1 << 16, 1 << 24, 1 << 30};

    private static int wrong = 0;
    private static int asked = 0;
    private static String sentence = "";

    private Edges() {
    }

    static void due(String call, long got, long want) {
        asked++;
        if (got != want) {
            wrong++;
            System.out.println(sentence + ": " + call + " answered " + got + ", due is " + want);
        }
    }

    static void dueText(String call, String got, String want) {
        asked++;
        if (!got.equals(want)) {
            wrong++;
            System.out.println(sentence + ": " + call + " is " + got + ", due is " + want);
        }
    }

    /** Each number near and far, on a new object each: taken from least to greatest, refused else. */
    static void takes(String call, Supplier<LeaningTrees> made, CallOfOne of, int least, int greatest, long refused) {
        for (int a = least - 40; a <= greatest + 40; a++) {
            boolean isRefused = of.on(made.get(), a) == refused;
            due(call + " of " + a + " is refused", isRefused ? 1 : 0, a < least || a > greatest ? 1 : 0);
        }
        for (int a : FAR) {
            due(call + " of " + a, of.on(made.get(), a), refused);
        }
    }

    // ---- objects

    /** A new object with THE TREE of n nodes and a row; one step, if the row is not all 0. */
    static LeaningTrees tree(int n, int digits) {
        LeaningTrees x = new LeaningTrees();
        x.nodes(n);
        if (x.row(digits) < 0) {
            throw new IllegalStateException("the test's own row is none: " + digits);
        }
        return x;
    }

    /** A new object with THE TREE of n nodes, and another tree of n nodes on shelf 0. */
    static LeaningTrees pair(int n, int digits, int shelfDigits) {
        LeaningTrees x = tree(n, shelfDigits);
        x.keep(0);
        x.row(digits);
        return x;
    }

    /** Shelf 0 holds a tree of as many nodes, above THE TREE, shelf 1 one of more, 2 one of fewer, 3 nothing. */
    static LeaningTrees shelved() {
        LeaningTrees x = new LeaningTrees();
        x.nodes(5);
        x.keep(1);
        x.nodes(2);
        x.keep(2);
        x.nodes(4);
        x.row(3100);
        x.keep(0);
        x.row(2100);
        return x;
    }

    static void feedAll(LeaningTrees x, String text) {
        for (int i = 0; i < text.length(); i++) {
            x.feed(text.charAt(i));
        }
    }

    static String written(LeaningTrees x) {
        StringBuilder text = new StringBuilder();
        int length = x.written(-1);
        for (int i = 0; i < length; i++) {
            text.append((char) x.written(i));
        }
        return text.toString();
    }

    static void putAll(LeaningTrees x, int list, long... values) {
        x.list(list, values.length);
        for (int i = 0; i < values.length; i++) {
            x.put(list, i, values[i]);
        }
    }

    // ---- how the tests run

    static List<Method> testsOf(Class<?> tests) {
        List<Method> found = new ArrayList<>();
        for (Method m : tests.getDeclaredMethods()) {
            if (m.isAnnotationPresent(Says.class)) {
                m.setAccessible(true);
                found.add(m);
            }
        }
        found.sort((a, b) -> a.getName().compareTo(b.getName()));
        return found;
    }

    /** What a test throws counts as wrong, and the tests behind it still run. */
    static void run(Class<?> tests) {
        List<Method> all = testsOf(tests);
        for (Method m : all) {
            Says says = m.getAnnotation(Says.class);
            sentence = (says.promise() > 0 ? "promise " + says.promise() : "terms") + " \"" + says.words() + "\" " + m.getName();
            int before = asked;
            try {
                m.invoke(null);
            } catch (InvocationTargetException thrown) {
                wrong++;
                System.out.println(sentence + ": thrown " + thrown.getCause() + " "
                        + Arrays.toString(Arrays.copyOf(thrown.getCause().getStackTrace(), 3)));
            } catch (IllegalAccessException e) {
                throw new IllegalStateException(e);
            }
            if (asked == before) {
                wrong++;
                System.out.println(sentence + ": nothing is looked at");
            }
        }
        System.out.println(all.size() + " sentences, " + asked + " answers looked at, " + wrong + " wrong");
        if (wrong != 0 || all.isEmpty()) {
            System.exit(1);
        }
    }
}
