import java.lang.management.ManagementFactory;
import java.lang.reflect.Constructor;
import java.lang.reflect.Field;
import java.lang.reflect.Method;
import java.lang.reflect.Modifier;
import java.nio.file.Files;
import java.nio.file.Path;
import java.util.Arrays;
import java.util.Set;
import java.util.TreeSet;
import java.util.regex.Matcher;
import java.util.regex.Pattern;

/** The face, the rules of LANGUAGE.md that can be seen from outside, and the room that calls use. */
public final class RulesTest {
    private static int wrong = 0;

    private static void due(String what, Object got, Object want) {
        if (!got.equals(want)) {
            wrong++;
            System.out.println(what + " is\n  " + got + ", due is\n  " + want);
        }
    }

    private static final String METHODS = "nodes(int) row(int) of(int,int) number(int) which() many(int) digits() turn(int) "
            + "back(int) mayTurn(int) mirror() off() below(int,int) meet(int,int) meetAll(int) between(int,int) way(int,int) "
            + "chain(int,int) mark(int) pairs(int) far(int) canopy() inClass(int,int) likeness(int) keep(int) lay(int) "
            + "lose(int) over(int) under(int) shelf(int,int) list(int,int) put(int,int,long) get(int,int) play(int) "
            + "film(int,int) feed(int) wipe() read() written(int) image() undo() count(int)";

    private static final String CONSTANTS = "NONE=-1 BAD=-2 STATE=-3 FULL=-4 NOT=-5 EMPTY=-6 OTHER=-7 MISSING=-11 PLACE=-13 "
            + "BELOW=-14 VOID=-9223372036854775808";

    private static String told(Method m) {
        StringBuilder types = new StringBuilder();
        for (Class<?> type : m.getParameterTypes()) {
            types.append(types.length() == 0 ? "" : ",").append(type.getSimpleName());
        }
        return m.getName() + "(" + types + ")";
    }

    private static void face() throws IllegalAccessException {
        Class<?> face = LeaningTrees.class;
        due("the class's modifiers", Modifier.toString(face.getModifiers()), "public final");
        Set<String> methods = new TreeSet<>();
        Set<String> names = new TreeSet<>();
        for (Method m : face.getDeclaredMethods()) {
            if (!Modifier.isPrivate(m.getModifiers())) {
                methods.add(told(m));
                names.add(m.getName());
                due("modifiers of " + m.getName(), Modifier.toString(m.getModifiers()), "public");
                due("what " + m.getName() + " answers", m.getReturnType().getName(), m.getName().equals("get") ? "long" : "int");
            }
        }
        due("the methods", methods, new TreeSet<>(Arrays.asList(METHODS.split(" "))));
        Set<String> constants = new TreeSet<>();
        for (Field f : face.getDeclaredFields()) {
            if (!Modifier.isPrivate(f.getModifiers())) {
                due("modifiers of " + f.getName(), Modifier.toString(f.getModifiers()), "public static final");
                due("type of " + f.getName(), f.getType().getName(), f.getName().equals("VOID") ? "long" : "int");
                constants.add(f.getName() + "=" + f.get(null));
            }
        }
        due("the constants", constants, new TreeSet<>(Arrays.asList(CONSTANTS.split(" "))));
        Constructor<?>[] makers = face.getDeclaredConstructors();
        due("how many constructors", makers.length, 1);
        due("the constructor", makers[0].toString(), "public LeaningTrees()");
        inside(face, names);
    }

    private static void inside(Class<?> face, Set<String> publicNames) {
        Class<?>[] classes = face.getDeclaredClasses();
        due("at most twelve classes", classes.length < 12, true);
        for (Class<?> one : classes) {
            due(one + " is static", Modifier.isStatic(one.getModifiers()), true);
            due(one + " is not public", Modifier.isPublic(one.getModifiers()), false);
            checkMembers(one, publicNames);
        }
        checkMembers(face, publicNames);
    }

    private static void checkMembers(Class<?> one, Set<String> publicNames) {
        int fields = 0;
        for (Field f : one.getDeclaredFields()) {
            boolean fixed = Modifier.isStatic(f.getModifiers());
            fields += fixed ? 0 : 1;
            due(f + " is final, if static", !fixed || Modifier.isFinal(f.getModifiers()), true);
        }
        due("at most twenty fields of " + one, fields <= 20, true);
        for (Method m : one.getDeclaredMethods()) {
            due("at most seven parameters of " + m, m.getParameterCount() <= 7, true);
            due(m + " bears no name of the face", !Modifier.isPublic(m.getModifiers()) && publicNames.contains(m.getName()), false);
        }
    }

    private static void source() throws java.io.IOException {
        String code = Files.readString(Path.of("src/main/java/LeaningTrees.java"));
        for (int i = 0; i < code.length(); i++) {
            due("a sign above 126 at " + i, code.charAt(i) > 126, false);
        }
        code = code.replaceAll("(?s)/\\*.*?\\*/", " ").replaceAll("//[^\n]*", " ");
        String[] words = {"throw", "throws", "try", "catch", "synchronized", "assert", "package", "volatile", "transient",
            "native", "System.out", "Random", "Thread", "currentTimeMillis", "nanoTime", "hashCode", "toString", "Object"};
        for (String word : words) {
            due("the word " + word, Pattern.compile("\\b" + Pattern.quote(word) + "\\b").matcher(code).find(), false);
        }
        due("a lambda or a method reference", code.contains("->") || code.contains("::"), false);
        Set<String> imports = new TreeSet<>();
        Matcher found = Pattern.compile("import ([\\w.]+);").matcher(code);
        while (found.find()) {
            imports.add(found.group(1));
        }
        imports.removeAll(Set.of("java.util.Arrays", "java.util.ArrayList", "java.util.List", "java.util.Iterator"));
        due("imports beyond rule 4", imports, new TreeSet<String>());
    }

    /**
     * All calls of one run share 7.3 million elements, 29 million bytes of int at the least, and 600,000 objects of at
     * least 16 bytes each: a run of 512 calls of which each makes as much as all calls of one round stays far below that.
     */
    private static void room() {
        com.sun.management.ThreadMXBean bean = (com.sun.management.ThreadMXBean) ManagementFactory.getThreadMXBean();
        long self = Thread.currentThread().getId();
        everyCall(new LeaningTrees(), 7);
        bean.getThreadAllocatedBytes(self);
        for (int n = 1; n <= 7; n++) {
            long start = bean.getThreadAllocatedBytes(self);
            LeaningTrees x = new LeaningTrees();
            long made = bean.getThreadAllocatedBytes(self);
            everyCall(x, n);
            long end = bean.getThreadAllocatedBytes(self);
            long ofRun = made - start + 512 * (end - made);
            due("a run of " + n + " nodes makes at most 4 million bytes: " + ofRun, ofRun <= 4000000, true);
        }
    }

    private static void everyCall(LeaningTrees x, int n) {
        x.nodes(n);
        x.image();
        x.keep(0);
        x.mirror();
        x.keep(1);
        x.lay(0);
        for (int what = 0; what <= 2; what++) {
            for (int shelf = 0; shelf <= 1; shelf++) {
                x.below(shelf, what);
                x.meet(shelf, what);
                x.between(shelf, what - 1);
                x.way(shelf, what);
                x.chain(shelf, what);
                x.mark(shelf);
                x.likeness(shelf);
                x.shelf(shelf, what);
            }
            x.meetAll(what);
            x.far(what);
            x.inClass(0, what);
            x.mayTurn(what);
            x.of(0, what);
            x.of(0, 3 + what);
        }
        x.film(0, 1);
        x.play(0);
        x.off();
        x.over(0);
        x.under(0);
        x.list(1, 20);
        x.put(1, 2, 3);
        x.get(1, 2);
        x.pairs(n);
        x.many(n);
        x.which();
        x.digits();
        x.canopy();
        x.number(0);
        x.row(0);
        x.turn(0);
        x.back(0);
        x.written(0);
        x.feed('(');
        x.read();
        x.feed('(');
        x.wipe();
        x.undo();
        x.lose(1);
        x.count(3);
    }

    public static void main(String[] args) throws Exception {
        face();
        source();
        room();
        System.out.println(wrong == 0 ? "the rules are kept" : wrong + " rules are not kept");
        if (wrong != 0) {
            System.exit(1);
        }
    }
}
