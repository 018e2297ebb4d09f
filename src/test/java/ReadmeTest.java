import java.io.IOException;
import java.lang.reflect.Field;
import java.lang.reflect.InvocationTargetException;
import java.lang.reflect.Method;
import java.lang.reflect.Modifier;
import java.nio.file.Files;
import java.nio.file.Path;
import java.util.HashMap;
import java.util.HashSet;
import java.util.Map;
import java.util.Set;
import java.util.regex.Matcher;
import java.util.regex.Pattern;

/** What README.md shows is so: its examples are played, its constants are the class's, its commands find their files. */
public final class ReadmeTest {
    private static final Pattern BLOCK = Pattern.compile("(?s)```java\n(.*?)```");
    private static final Pattern CALL = Pattern.compile("x\\.(\\w+)\\(([^;]*)\\);\\s*// (-?\\d+|[A-Z]+)(?::.*)?");
    private static final Pattern CONSTANT = Pattern.compile("(?m)^\\| `([A-Z]+)` \\| (-?\\d+) \\|");
    private static final Pattern NAMED_CALL = Pattern.compile("`(\\w+)\\(([^)`]*)\\)`");
    private static final Pattern FILE = Pattern.compile("(?m)(?:\\.\\./shared/tests|src/\\w+/\\w+)/\\w+\\.java|\\.ci/run");
    private static final Pattern TEST = Pattern.compile("`(\\w+Test)`");
    private static final String NEW_OBJECT = "LeaningTrees x = new LeaningTrees();";

    private static final Map<String, Method> CALLS = new HashMap<>();
    private static final Map<String, Long> CONSTANTS = new HashMap<>();

    private static int wrong = 0;
    private static int asked = 0;

    private ReadmeTest() {
    }

    private static void due(String what, Object got, Object want) {
        asked++;
        if (!want.equals(got)) {
            wrong++;
            System.out.println(what + " is " + got + ", due is " + want);
        }
    }

    private static void learnFace() throws IllegalAccessException {
        for (Method m : LeaningTrees.class.getDeclaredMethods()) {
            if (Modifier.isPublic(m.getModifiers())) {
                CALLS.put(m.getName(), m);
            }
        }
        for (Field f : LeaningTrees.class.getDeclaredFields()) {
            if (Modifier.isPublic(f.getModifiers())) {
                CONSTANTS.put(f.getName(), ((Number) f.get(null)).longValue());
            }
        }
    }

    private static long numberOf(String told) {
        if (told.matches("'.'")) {
            return told.charAt(1);
        }
        return CONSTANTS.containsKey(told) ? CONSTANTS.get(told) : Long.parseLong(told);
    }

    private static long play(LeaningTrees x, Method call, String told) throws IllegalAccessException, InvocationTargetException {
        String[] parts = told.isBlank() ? new String[0] : told.split(",\\s*");
        Object[] given = new Object[parts.length];
        for (int i = 0; i < parts.length; i++) {
            long value = numberOf(parts[i]);
            given[i] = call.getParameterTypes()[i] == long.class ? (Object) value : (Object) Math.toIntExact(value);
        }
        return ((Number) call.invoke(x, given)).longValue();
    }

    private static void examples(String page) throws IllegalAccessException, InvocationTargetException {
        Matcher block = BLOCK.matcher(page);
        int blocks = 0;
        while (block.find()) {
            blocks++;
            LeaningTrees x = null;
            for (String line : block.group(1).split("\n")) {
                if (line.equals(NEW_OBJECT)) {
                    x = new LeaningTrees();
                    continue;
                }
                Matcher call = CALL.matcher(line);
                boolean played = call.matches() && CALLS.containsKey(call.group(1)) && x != null;
                due("that this line can be played: " + line, played, true);
                if (played) {
                    due(line, play(x, CALLS.get(call.group(1)), call.group(2)), numberOf(call.group(3)));
                }
            }
        }
        due("that README.md has examples", blocks > 0, true);
    }

    private static void constants(String page) {
        Map<String, Long> told = new HashMap<>();
        Matcher row = CONSTANT.matcher(page);
        while (row.find()) {
            told.put(row.group(1), Long.parseLong(row.group(2)));
        }
        due("the table of the constants", told, CONSTANTS);
    }

    /** Each call stands in the page with as many parameters as it has; "name()" in running text only names it. */
    private static void everyCallIsTold(String page) {
        Set<String> told = new HashSet<>();
        Matcher named = NAMED_CALL.matcher(page);
        while (named.find()) {
            String parameters = named.group(2);
            int many = parameters.isBlank() ? 0 : parameters.split(",").length;
            Method call = CALLS.get(named.group(1));
            due("that there is a call " + named.group(1), call != null, true);
            if (call != null && call.getParameterCount() == many) {
                told.add(call.getName());
            }
        }
        due("the calls that are told", told, CALLS.keySet());
    }

    private static void filesAreThere(String page) throws IOException {
        Matcher file = FILE.matcher(page);
        while (file.find()) {
            due(file.group() + " is there", Files.exists(Path.of(file.group())), true);
        }
        Set<String> told = new HashSet<>();
        Matcher test = TEST.matcher(page);
        while (test.find()) {
            told.add(test.group(1) + ".java");
        }
        Set<String> there = new HashSet<>();
        try (var files = Files.list(Path.of("src/test/java"))) {
            files.forEach(f -> there.add(f.getFileName().toString()));
        }
        due("the tests that are told", told, there);
    }

    public static void main(String[] args) throws Exception {
        String page = Files.readString(Path.of("README.md"));
        learnFace();
        examples(page);
        constants(page);
        everyCallIsTold(page);
        filesAreThere(page);
        System.out.println(asked + " lines of README.md looked at, " + wrong + " wrong");
        if (wrong != 0) {
            System.exit(1);
        }
    }
}
