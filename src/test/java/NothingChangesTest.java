import java.util.ArrayList;
import java.util.List;
import java.util.function.Supplier;

/**
 * What is refused and what is asked changes nothing. Of two objects made alike one gets the call, and then both are
 * asked for all that can be seen of them, the steps, the tape and the image by taking them off, reading and going back.
 */
public final class NothingChangesTest {
    private NothingChangesTest() {
    }

    public static void main(String[] args) {
        Edges.run(NothingChangesTest.class);
    }

    // ---- three states

    /** Some of all: steps over two sizes, shelves of three sizes, lists of 5 and 0 longs, a begun text, an elder image. */
    private static LeaningTrees some() {
        LeaningTrees x = new LeaningTrees();
        x.nodes(6);
        x.number(100);
        x.keep(1);
        x.image();
        x.nodes(4);
        x.row(3100);
        x.keep(0);
        x.nodes(2);
        x.keep(3);
        x.turn(0);
        x.over(3);
        x.row(2100);
        Edges.putAll(x, 0, 0, -1, Long.MIN_VALUE, Long.MAX_VALUE, 3);
        x.list(1, 0);
        Edges.feedAll(x, "((..).");
        return x;
    }

    /** As much as there can be: seven nodes, ten steps, four shelves, three lists of twenty, sixty bytes. */
    private static LeaningTrees full() {
        LeaningTrees x = new LeaningTrees();
        x.image();
        x.nodes(7);
        for (int k = 0; k < 12; k++) {
            x.number(40 * k % 429);
            x.keep(k % 4);
        }
        for (int list = 0; list <= 2; list++) {
            x.list(list, 20);
            for (int i = 0; i < 20; i++) {
                x.put(list, i, 100 * list + i);
            }
        }
        Edges.feedAll(x, "(.(.(.(.(.(.(..)))))))");
        while (x.count(2) < 60) {
            x.feed(32 + x.count(2));
        }
        return x;
    }

    /** One node, nothing else. */
    private static LeaningTrees bare() {
        LeaningTrees x = new LeaningTrees();
        x.nodes(1);
        return x;
    }

    // ---- all that can be seen

    private static List<Long> seen(LeaningTrees x) {
        List<Long> seen = new ArrayList<>();
        for (int what = 0; what <= 4; what++) {
            seen.add((long) x.count(what));
        }
        seeTreeAndShelves(x, seen);
        for (int list = 0; list <= 2; list++) {
            for (int i = 0; i <= 20; i++) {
                seen.add(x.get(list, i));
            }
            seen.add((long) x.put(list, 0, x.get(list, 0)));
        }
        for (int i = 0; i <= 10; i++) {
            seen.add((long) x.off());
            seen.add((long) x.count(0));
            seen.add((long) x.digits());
        }
        seeTape(x, seen);
        seen.add((long) x.undo());
        seeTreeAndShelves(x, seen);
        return seen;
    }

    private static void seeTreeAndShelves(LeaningTrees x, List<Long> seen) {
        seen.add((long) x.count(0));
        seen.add((long) x.digits());
        for (int shelf = 0; shelf <= 3; shelf++) {
            seen.add((long) x.shelf(shelf, 0));
            seen.add((long) x.shelf(shelf, 2));
        }
    }

    /** A begun text is a whole one with a byte more; of a full tape the place of the fault tells its bytes. */
    private static void seeTape(LeaningTrees x, List<Long> seen) {
        seen.add((long) x.feed(')'));
        seen.add((long) x.read());
        seen.add((long) x.digits());
        seen.add((long) x.count(2));
    }

    /** The call, its answer (VOID: any), and that an object with it and one without it can't be told apart. */
    private static void changesNothing(String name, Supplier<LeaningTrees> made, Edges.Call call, long want) {
        LeaningTrees x = made.get();
        long got = call.on(x);
        if (want != Edges.VOID) {
            Edges.due(name, got, want);
        }
        Edges.dueText("all that can be seen behind " + name, seen(x).toString(), seen(made.get()).toString());
    }

    private static void refused(String name, Supplier<LeaningTrees> made, long want, Edges.Call... calls) {
        for (int i = 0; i < calls.length; i++) {
            changesNothing(name + ", call " + i, made, calls[i], want);
        }
    }

    private static final int[] NO_SHELF = {-1, 4, Integer.MIN_VALUE, Integer.MAX_VALUE};
    private static final int[] NO_LIST = {-1, 3, Integer.MIN_VALUE, Integer.MAX_VALUE};
    private static final int[] NO_QUESTION = {-1, 6, Integer.MIN_VALUE, Integer.MAX_VALUE};

    private static void inEachState(String name, long want, Edges.Call call) {
        changesNothing(name + ", some", NothingChangesTest::some, call, want);
        changesNothing(name + ", full", NothingChangesTest::full, call, want);
        changesNothing(name + ", bare", NothingChangesTest::bare, call, want);
    }

    // ---- refused

    @Edges.Says(words = "NONE (-1) no such number")
    private static void noSuchShelfChangesNothing() {
        for (int shelf : NO_SHELF) {
            inEachState("below", Edges.NONE, x -> x.below(shelf, 0));
            inEachState("meet", Edges.NONE, x -> x.meet(shelf, 1));
            inEachState("between", Edges.NONE, x -> x.between(shelf, -1));
            inEachState("way", Edges.NONE, x -> x.way(shelf, 0));
            inEachState("chain", Edges.NONE, x -> x.chain(shelf, 0));
            inEachState("mark", -99, x -> x.mark(shelf));
            inEachState("likeness", Edges.NONE, x -> x.likeness(shelf));
            inEachState("keep", Edges.NONE, x -> x.keep(shelf));
            inEachState("lay", Edges.NONE, x -> x.lay(shelf));
            inEachState("lose", Edges.NONE, x -> x.lose(shelf));
            inEachState("over", Edges.NONE, x -> x.over(shelf));
            inEachState("under", Edges.NONE, x -> x.under(shelf));
            inEachState("shelf", Edges.NONE, x -> x.shelf(shelf, 0));
            inEachState("film", Edges.NONE, x -> x.film(0, shelf));
        }
    }

    @Edges.Says(words = "NONE (-1) no such number")
    private static void noSuchListChangesNothing() {
        for (int list : NO_LIST) {
            inEachState("list", Edges.NONE, x -> x.list(list, 4));
            inEachState("put", Edges.NONE, x -> x.put(list, 0, 4));
            inEachState("play", Edges.NONE, x -> x.play(list));
            inEachState("film", Edges.NONE, x -> x.film(list, 0));
            inEachState("get", Edges.VOID, x -> x.get(list, 0));
        }
    }

    @Edges.Says(words = "NONE (-1) no such number")
    private static void noSuchQuestionChangesNothing() {
        for (int what : NO_QUESTION) {
            inEachState("of", Edges.NONE, x -> x.of(0, what));
            inEachState("mayTurn", Edges.NONE, x -> x.mayTurn(what));
            inEachState("below", Edges.NONE, x -> x.below(0, what));
            inEachState("meet", Edges.NONE, x -> x.meet(0, what));
            inEachState("meetAll", Edges.NONE, x -> x.meetAll(what));
            inEachState("way", Edges.NONE, x -> x.way(0, what));
            inEachState("chain", Edges.NONE, x -> x.chain(0, what));
            inEachState("far", Edges.NONE, x -> x.far(what));
            inEachState("inClass", Edges.NONE, x -> x.inClass(0, what));
            inEachState("shelf", Edges.NONE, x -> x.shelf(0, what));
            inEachState("count", Edges.NONE, x -> x.count(what));
        }
    }

    @Edges.Says(words = "NONE (-1) no such number")
    private static void noSuchNodeNumberOrByteChangesNothing() {
        for (int far : new int[] {-2, 429, Integer.MIN_VALUE, Integer.MAX_VALUE}) {
            inEachState("of", Edges.NONE, x -> x.of(far, 0));
            inEachState("number", Edges.NONE, x -> x.number(far));
            inEachState("turn", Edges.NONE, x -> x.turn(far));
            inEachState("back", Edges.NONE, x -> x.back(far));
            inEachState("written", Edges.NONE, x -> x.written(far));
        }
        inEachState("number(-1)", Edges.NONE, x -> x.number(-1));
        inEachState("turn(-1)", Edges.NONE, x -> x.turn(-1));
        inEachState("back(-1)", Edges.NONE, x -> x.back(-1));
        refused("NODE n of four", NothingChangesTest::some, Edges.NONE, x -> x.turn(4), x -> x.back(4), x -> x.of(4, 0),
                x -> x.number(14), x -> x.written(13), x -> x.between(0, 100), x -> x.between(0, -2));
        refused("NODE n of seven", NothingChangesTest::full, Edges.NONE, x -> x.turn(7), x -> x.back(7), x -> x.of(7, 0),
                x -> x.written(22), x -> x.between(0, 429));
        refused("NODE n of one", NothingChangesTest::bare, Edges.NONE, x -> x.turn(1), x -> x.back(1), x -> x.of(1, 0),
                x -> x.number(1), x -> x.written(4));
    }

    @Edges.Says(words = "BAD (-2) a number is not as told")
    private static void badChangesNothing() {
        for (int n : new int[] {0, 8, -1, Integer.MIN_VALUE, Integer.MAX_VALUE}) {
            inEachState("nodes", Edges.BAD, x -> x.nodes(n));
            inEachState("many", Edges.BAD, x -> x.many(n));
            inEachState("pairs", Edges.BAD, x -> x.pairs(n));
        }
        inEachState("pairs(7)", Edges.BAD, x -> x.pairs(7));
        for (int digits : new int[] {-1, 1, 11, 9999, 10000000, Integer.MIN_VALUE, Integer.MAX_VALUE}) {
            inEachState("row", Edges.BAD, x -> x.row(digits));
        }
        for (int set : new int[] {-1, 64, Integer.MIN_VALUE, Integer.MAX_VALUE}) {
            inEachState("inClass", Edges.BAD, x -> x.inClass(set, 0));
        }
        for (int letter : new int[] {31, 127, -1, 0, Integer.MIN_VALUE, Integer.MAX_VALUE}) {
            inEachState("feed", Edges.BAD, x -> x.feed(letter));
        }
        for (int list = 0; list <= 2; list++) {
            int told = list;
            inEachState("list of 21", Edges.BAD, x -> x.list(told, 21));
            inEachState("list of the greatest int", Edges.BAD, x -> x.list(told, Integer.MAX_VALUE));
        }
    }

    @Edges.Says(words = "STATE (-3) as told")
    private static void stateChangesNothing() {
        refused("STATE", NothingChangesTest::bare, Edges.STATE, LeaningTrees::off, LeaningTrees::undo);
        refused("undo()", () -> {
            LeaningTrees x = Edges.tree(4, 2100);
            x.keep(2);
            Edges.feedAll(x, "((..).");
            return x;
        }, Edges.STATE, LeaningTrees::undo);
        refused("off()", () -> {
            LeaningTrees x = Edges.tree(4, 2100);
            x.image();
            x.nodes(5);
            x.keep(2);
            return x;
        }, Edges.STATE, LeaningTrees::off);
    }

    @Edges.Says(words = "FULL (-4)")
    private static void fullChangesNothing() {
        refused("FULL", NothingChangesTest::full, Edges.FULL, x -> x.over(0), x -> x.over(3), x -> x.under(0), x -> x.under(3),
                x -> x.feed(32), x -> x.feed(126));
        refused("FULL of six and four", NothingChangesTest::some, Edges.FULL, x -> x.over(1), x -> x.under(1), x -> x.over(0),
                x -> x.under(0));
    }

    @Edges.Says(words = "NOT (-5) as told")
    private static void notChangesNothing() {
        refused("NOT", NothingChangesTest::some, Edges.NOT, x -> x.turn(1), x -> x.turn(3), x -> x.back(2), x -> x.back(3),
                x -> x.of(3, 1), x -> x.of(0, 2), x -> x.of(3, 3));
        refused("NOT of one node", NothingChangesTest::bare, Edges.NOT, x -> x.turn(0), x -> x.back(0), x -> x.of(0, 1),
                x -> x.of(0, 2), x -> x.of(0, 3));
        Supplier<LeaningTrees> apart = () -> {
            LeaningTrees x = some();
            x.row(1010);
            return x;
        };
        refused("NOT BELOW", apart, Edges.NOT, x -> x.chain(0, 0), x -> x.chain(0, 1));
        refused("NOT BELOW", apart, -95, x -> x.mark(0));
        refused("no TURN", () -> {
            LeaningTrees x = some();
            x.row(3100);
            return x;
        }, Edges.NOT, x -> x.way(0, 1));
    }

    @Edges.Says(words = "A SHELF's TREE is EMPTY (-6) where none is held")
    private static void emptyChangesNothing() {
        refused("EMPTY", NothingChangesTest::some, Edges.EMPTY, x -> x.below(2, 0), x -> x.meet(2, 0), x -> x.between(2, -1),
                x -> x.between(2, 500), x -> x.way(2, 1), x -> x.chain(2, 0), x -> x.likeness(2), x -> x.lay(2), x -> x.lose(2),
                x -> x.over(2), x -> x.under(2), x -> x.shelf(2, 1), x -> x.film(0, 2), x -> x.film(2, 2));
        refused("EMPTY", NothingChangesTest::some, -94, x -> x.mark(2));
        for (int shelf = 0; shelf <= 3; shelf++) {
            int told = shelf;
            refused("EMPTY", NothingChangesTest::bare, Edges.EMPTY, x -> x.lay(told), x -> x.lose(told), x -> x.over(told),
                    x -> x.under(told), x -> x.film(1, told));
        }
    }

    @Edges.Says(words = "OTHER (-7) where it has not as many NODES as THE TREE")
    private static void otherChangesNothing() {
        for (int shelf : new int[] {1, 3}) {
            refused("OTHER", NothingChangesTest::some, Edges.OTHER, x -> x.below(shelf, 0), x -> x.meet(shelf, 0),
                    x -> x.between(shelf, -1), x -> x.between(shelf, 500), x -> x.way(shelf, 1), x -> x.chain(shelf, 0),
                    x -> x.likeness(shelf), x -> x.film(0, shelf), x -> x.film(2, shelf));
            refused("OTHER", NothingChangesTest::some, -93, x -> x.mark(shelf));
        }
    }

    @Edges.Says(words = "MISSING (-11); PLACE (-13); BELOW (-14)")
    private static void missingPlaceAndBelowChangeNothing() {
        refused("MISSING", NothingChangesTest::some, Edges.MISSING, x -> x.put(2, 0, 1), x -> x.put(2, 99, 1), x -> x.play(2));
        refused("PLACE", NothingChangesTest::some, Edges.PLACE, x -> x.put(0, 5, 1), x -> x.put(0, -1, 1), x -> x.put(1, 0, 1),
                x -> x.put(0, Integer.MAX_VALUE, 1), x -> x.put(0, Integer.MIN_VALUE, 1));
        refused("PLACE", NothingChangesTest::full, Edges.PLACE, x -> x.put(0, 20, 1), x -> x.put(2, -1, 1));
        for (int list = 0; list <= 2; list++) {
            int told = list;
            inEachState("list of -2", Edges.BELOW, x -> x.list(told, -2));
            inEachState("list of the least int", Edges.BELOW, x -> x.list(told, Integer.MIN_VALUE));
        }
    }

    @Edges.Says(words = "What is answered so changes nothing, but THE TAPE, which is empty behind each read().")
    private static void aRefusedReadChangesJustTheTape() {
        for (String text : new String[] {"", ".", "(", "(..))", "((((((((", "((..).", "x"}) {
            LeaningTrees x = some();
            x.wipe();
            Edges.feedAll(x, text);
            Edges.due("read() of " + text + " is refused", x.read() <= -100 ? 1 : 0, 1);
            LeaningTrees y = some();
            y.wipe();
            Edges.dueText("all that can be seen behind read() of " + text, seen(x).toString(), seen(y).toString());
        }
        LeaningTrees x = full();
        Edges.due("read() of sixty bytes", x.read(), -122);
        LeaningTrees y = full();
        y.wipe();
        Edges.dueText("all that can be seen behind it", seen(x).toString(), seen(y).toString());
    }

    // ---- asked, and told what is so already

    @Edges.Says(words = "What is asked changes nothing.")
    private static void whatIsAskedChangesNothing() {
        for (int i = 0; i <= 4; i++) {
            int a = i;
            inEachState("count(" + i + ")", Edges.VOID, x -> x.count(a));
            inEachState("mayTurn(" + i + ")", Edges.VOID, x -> x.mayTurn(a));
            inEachState("meetAll(" + i + ")", Edges.VOID, x -> x.meetAll(a));
            inEachState("far(" + i + ")", Edges.VOID, x -> x.far(a));
            inEachState("mark(" + i + ")", Edges.VOID, x -> x.mark(a));
            inEachState("likeness(" + i + ")", Edges.VOID, x -> x.likeness(a));
            inEachState("many(" + i + ")", Edges.VOID, x -> x.many(a));
            inEachState("pairs(" + i + ")", Edges.VOID, x -> x.pairs(a));
            inEachState("written(" + i + ")", Edges.VOID, x -> x.written(a));
            for (int j = 0; j <= 2; j++) {
                int b = j;
                inEachState("of(" + i + ", " + j + ")", Edges.VOID, x -> x.of(a, b));
                inEachState("of(" + i + ", " + j + " and 3)", Edges.VOID, x -> x.of(a, b + 3));
                inEachState("below(" + i + ", " + j + ")", Edges.VOID, x -> x.below(a, b));
                inEachState("meet(" + i + ", " + j + ")", Edges.VOID, x -> x.meet(a, b));
                inEachState("between(" + i + ", " + j + " less 1)", Edges.VOID, x -> x.between(a, b - 1));
                inEachState("way(" + i + ", " + j + ")", Edges.VOID, x -> x.way(a, b));
                inEachState("chain(" + i + ", " + j + ")", Edges.VOID, x -> x.chain(a, b));
                inEachState("inClass(" + i + ", " + j + ")", Edges.VOID, x -> x.inClass(a, b));
                inEachState("shelf(" + i + ", " + j + ")", Edges.VOID, x -> x.shelf(a, b));
                inEachState("get(" + j + ", " + i + ")", Edges.VOID, x -> x.get(b, a));
            }
        }
        inEachState("written(-1)", Edges.VOID, x -> x.written(-1));
        inEachState("which()", Edges.VOID, LeaningTrees::which);
        inEachState("digits()", Edges.VOID, LeaningTrees::digits);
        inEachState("canopy()", Edges.VOID, LeaningTrees::canopy);
    }

    @Edges.Says(words = "telling what is so already is none")
    private static void tellingWhatIsSoAlreadyChangesNothing() {
        inEachState("row() of what is so", Edges.VOID, x -> x.row(x.digits()));
        inEachState("number() of what is so", Edges.VOID, x -> x.number(x.which()));
        inEachState("put() of what is so", Edges.VOID, x -> x.put(0, 0, x.get(0, 0)));
        refused("lay() of what is so", NothingChangesTest::full, 7, x -> x.lay(3));
        refused("keep() of what is so", NothingChangesTest::full, 440 % 429, x -> x.keep(3));
        refused("mirror() of one node", NothingChangesTest::bare, 0, LeaningTrees::mirror);
        refused("play() of a LIST of none", NothingChangesTest::some, 0, x -> x.play(1));
        refused("wipe() of an empty tape", NothingChangesTest::bare, 0, LeaningTrees::wipe);
        refused("list() of one that is missing", NothingChangesTest::some, 1, x -> x.list(2, -1));
    }

    @Edges.Says(words = "film()")
    private static void filmChangesJustItsList() {
        LeaningTrees x = some();
        int turns = x.film(0, 0);
        LeaningTrees y = some();
        y.list(0, turns);
        for (int i = 0; i < turns; i++) {
            y.put(0, i, x.get(0, i));
        }
        Edges.dueText("all that can be seen behind film(0, 0)", seen(x).toString(), seen(y).toString());
    }
}
