/** The sentences of promises 26 to 36, and of the terms about shelves and lists, that name a boundary. */
public final class ShelfEdgesTest {
    private ShelfEdgesTest() {
    }

    public static void main(String[] args) {
        Edges.run(ShelfEdgesTest.class);
    }

    /** THE TREE of n nodes, and a tree of others on shelf 0, both as told by their digits. */
    private static LeaningTrees two(int n, int digits, int held, int shelfDigits) {
        LeaningTrees x = Edges.tree(held, shelfDigits);
        x.keep(0);
        x.nodes(n);
        x.row(digits);
        return x;
    }

    private static LeaningTrees withList(int length) {
        LeaningTrees x = new LeaningTrees();
        x.list(1, length);
        return x;
    }

    /** List 0 holds nothing, list 1 two longs, list 2 is missing. */
    private static LeaningTrees listed() {
        LeaningTrees x = withList(2);
        x.list(0, 0);
        return x;
    }

    // ---- 26 keep

    @Edges.Says(promise = 26, words = "A SHELF holds THE TREE: its NUMBER.")
    private static void keepOnEachShelf() {
        for (int shelf = 0; shelf <= 3; shelf++) {
            LeaningTrees x = Edges.tree(7, 6543210);
            Edges.due("keep(" + shelf + ")", x.keep(shelf), 428);
            Edges.due("count(3)", x.count(3), 1);
            Edges.due("shelf(" + shelf + ", 2)", x.shelf(shelf, 2), 6543210);
            x.nodes(1);
            Edges.due("keep(" + shelf + ") again", x.keep(shelf), 0);
            Edges.due("count(3)", x.count(3), 1);
            Edges.due("shelf(" + shelf + ", 0)", x.shelf(shelf, 0), 1);
            for (int other = 0; other <= 3; other++) {
                if (other != shelf) {
                    Edges.due("shelf(" + other + ", 0)", x.shelf(other, 0), Edges.EMPTY);
                }
            }
        }
    }

    @Edges.Says(promise = 26, words = "NONE.")
    private static void keepOnNoShelf() {
        Edges.takes("keep", LeaningTrees::new, LeaningTrees::keep, 0, 3, Edges.NONE);
        LeaningTrees x = new LeaningTrees();
        x.keep(4);
        x.keep(-1);
        Edges.due("count(3)", x.count(3), 0);
    }

    @Edges.Says(words = "SHELVES 0 .. 3 hold nothing (at first) or a TREE.")
    private static void whatIsHeldStaysWhenTheTreeChanges() {
        LeaningTrees x = Edges.tree(4, 1010);
        for (int shelf = 0; shelf <= 3; shelf++) {
            x.keep(shelf);
        }
        x.turn(0);
        x.nodes(7);
        x.mirror();
        Edges.feedAll(x, "(..)");
        x.read();
        for (int shelf = 0; shelf <= 3; shelf++) {
            Edges.due("shelf(" + shelf + ", 2)", x.shelf(shelf, 2), 1010);
        }
        Edges.due("count(3)", x.count(3), 4);
    }

    // ---- 27 lay

    @Edges.Says(promise = 27, words = "THE TREE becomes that of a SHELF: NODES.")
    private static void layOfEachSize() {
        for (int n = 1; n <= 7; n++) {
            for (int held = 1; held <= 7; held++) {
                LeaningTrees x = two(n, 0, held, Edges.GREATEST[held]);
                Edges.due("lay(0)", x.lay(0), held);
                Edges.due("digits()", x.digits(), Edges.GREATEST[held]);
                Edges.due("shelf(0, 0)", x.shelf(0, 0), held);
                Edges.due("count(1)", x.count(1), n == 1 && held == 1 ? 0 : 1);
                if (n != 1 || held != 1) {
                    Edges.due("off()", x.off(), 0);
                }
                Edges.due("count(0) behind off()", x.count(0), n);
                Edges.due("digits() behind off()", x.digits(), 0);
            }
        }
    }

    @Edges.Says(promise = 27, words = "NONE; EMPTY.")
    private static void layOfNoShelf() {
        Edges.takes("lay", Edges::shelved, LeaningTrees::lay, 0, 3, Edges.NONE);
    }

    @Edges.Says(promise = 27, words = "EMPTY")
    private static void layOfAnEmptyShelf() {
        LeaningTrees x = Edges.shelved();
        Edges.due("lay(3)", x.lay(3), Edges.EMPTY);
        x.keep(3);
        x.lose(3);
        Edges.due("lay(3) of one that has lost it", x.lay(3), Edges.EMPTY);
        Edges.due("digits()", x.digits(), 2100);
        for (int shelf = 0; shelf <= 3; shelf++) {
            Edges.due("lay of a new object", new LeaningTrees().lay(shelf), Edges.EMPTY);
        }
    }

    // ---- 28 lose

    @Edges.Says(promise = 28, words = "A SHELF holds nothing: NODES of what it held.")
    private static void loseOfEachSize() {
        for (int shelf = 0; shelf <= 3; shelf++) {
            for (int held = 1; held <= 7; held++) {
                LeaningTrees x = Edges.tree(held, 0);
                x.keep(shelf);
                x.nodes(3);
                Edges.due("lose(" + shelf + ")", x.lose(shelf), held);
                Edges.due("count(3)", x.count(3), 0);
                Edges.due("count(0)", x.count(0), 3);
                Edges.due("lose(" + shelf + ") again", x.lose(shelf), Edges.EMPTY);
            }
        }
    }

    @Edges.Says(promise = 28, words = "NONE; EMPTY.")
    private static void loseOfNoShelf() {
        Edges.takes("lose", Edges::shelved, LeaningTrees::lose, 0, 3, Edges.NONE);
    }

    @Edges.Says(promise = 28, words = "EMPTY")
    private static void loseOfAnEmptyShelf() {
        Edges.due("lose(3)", Edges.shelved().lose(3), Edges.EMPTY);
        for (int shelf = 0; shelf <= 3; shelf++) {
            Edges.due("lose of a new object", new LeaningTrees().lose(shelf), Edges.EMPTY);
        }
    }

    // ---- 29, 30 over, under

    @Edges.Says(words = "(Either way NODES together, 7 at most.)")
    private static void sevenTogetherAreTakenAndEightAreNot() {
        for (int n = 1; n <= 7; n++) {
            for (int held = 1; held <= 7; held++) {
                boolean fits = n + held <= 7;
                LeaningTrees x = two(n, 0, held, 0);
                Edges.due("over(0) of " + held + " and " + n, x.over(0), fits ? n + held : Edges.FULL);
                Edges.due("count(0)", x.count(0), fits ? n + held : n);
                Edges.due("digits(), all lean left", x.digits(), 0);
                Edges.due("count(1)", x.count(1), fits ? 1 : 0);
                x = two(n, Edges.GREATEST[n], held, Edges.GREATEST[held]);
                Edges.due("under(0) of " + n + " and " + held, x.under(0), fits ? n + held : Edges.FULL);
                Edges.due("count(0)", x.count(0), fits ? n + held : n);
                Edges.due("digits(), all lean right", x.digits(), Edges.GREATEST[fits ? n + held : n]);
            }
        }
    }

    @Edges.Says(promise = 29, words = "THE TREE becomes that of a SHELF OVER it: NODES.")
    private static void theShelfsTreeHangsLeftOfTheFirstNode() {
        LeaningTrees x = two(4, 3210, 3, 210);
        Edges.due("over(0)", x.over(0), 7);
        Edges.due("digits()", x.digits(), 2103210);
        Edges.due("of(3, 2), the shelf's root", x.of(3, 2), 0);
        Edges.due("shelf(0, 0)", x.shelf(0, 0), 3);
        Edges.due("shelf(0, 2)", x.shelf(0, 2), 210);
        x = two(1, 0, 1, 0);
        Edges.due("over(0) of one and one", x.over(0), 2);
        Edges.due("digits()", x.digits(), 0);
        x = two(3, 0, 4, 3210);
        Edges.due("over(0)", x.over(0), 7);
        Edges.due("digits()", x.digits(), 3210000);
    }

    /** The numbers of two rows side by side; those that the test names have more at their right. */
    private static void dueBeside(LeaningTrees x, LeaningTrees first, LeaningTrees second, boolean under) {
        int n = first.count(0);
        int m = second.count(0);
        for (int i = 0; i < n; i++) {
            int b = first.of(i, 0);
            Edges.due("of(" + i + ", 0)", x.of(i, 0), under && i + b == n - 1 ? b + m : b);
        }
        for (int i = 0; i < m; i++) {
            Edges.due("of(" + (n + i) + ", 0)", x.of(n + i, 0), second.of(i, 0));
        }
    }

    @Edges.Says(words = "A OVER B: B, and where its NODE 0 has no left child A stands. A UNDER B: A, and where its last NODE has no right child B stands.")
    private static void allThatCanBeSetTogether() {
        for (int n = 1; n <= 6; n++) {
            for (int held = 1; n + held <= 7; held++) {
                for (int k = 0; k < Edges.MANY[n] * Edges.MANY[held]; k++) {
                    LeaningTrees mine = Edges.tree(n, 0);
                    mine.number(k % Edges.MANY[n]);
                    LeaningTrees theirs = Edges.tree(held, 0);
                    theirs.number(k / Edges.MANY[n]);
                    LeaningTrees x = two(n, mine.digits(), held, theirs.digits());
                    x.over(0);
                    dueBeside(x, theirs, mine, false);
                    x.off();
                    x.under(0);
                    dueBeside(x, mine, theirs, true);
                }
            }
        }
    }

    @Edges.Says(promise = 29, words = "FULL: above 7.")
    private static void overAboveSeven() {
        LeaningTrees x = two(4, 2100, 4, 1010);
        Edges.due("over(0)", x.over(0), Edges.FULL);
        Edges.due("digits()", x.digits(), 2100);
        Edges.due("over(0) of seven and one", two(7, 0, 1, 0).over(0), Edges.FULL);
        Edges.due("over(0) of one and seven", two(1, 0, 7, 0).over(0), Edges.FULL);
    }

    @Edges.Says(promise = 29, words = "NONE; EMPTY; FULL")
    private static void overOfNoShelf() {
        Edges.takes("over", Edges::shelved, LeaningTrees::over, 0, 3, Edges.NONE);
        Edges.takes("over where all is full", () -> two(7, 0, 7, 0), LeaningTrees::over, 0, 3, Edges.NONE);
    }

    @Edges.Says(promise = 29, words = "EMPTY")
    private static void overOfAnEmptyShelfIsEmptyAheadOfFull() {
        Edges.due("over(3)", Edges.shelved().over(3), Edges.EMPTY);
        LeaningTrees x = Edges.tree(7, 0);
        for (int shelf = 0; shelf <= 3; shelf++) {
            Edges.due("over of seven nodes", x.over(shelf), Edges.EMPTY);
        }
    }

    @Edges.Says(promise = 30, words = "THE TREE becomes it UNDER that of a SHELF: NODES.")
    private static void theShelfsTreeHangsRightOfTheLastNode() {
        LeaningTrees x = two(4, 0, 3, 0);
        Edges.due("under(0)", x.under(0), 7);
        Edges.due("digits()", x.digits(), 3000);
        Edges.due("of(3, 3), the shelf's root", x.of(3, 3), 6);
        Edges.due("shelf(0, 0)", x.shelf(0, 0), 3);
        x = two(1, 0, 1, 0);
        Edges.due("under(0) of one and one", x.under(0), 2);
        Edges.due("digits()", x.digits(), 10);
        x = two(4, 1010, 2, 10);
        Edges.due("under(0)", x.under(0), 6);
        Edges.due("digits(), all that end it grow", x.digits(), 103210);
    }

    @Edges.Says(promise = 30, words = "FULL.")
    private static void underAboveSeven() {
        LeaningTrees x = two(4, 2100, 4, 1010);
        Edges.due("under(0)", x.under(0), Edges.FULL);
        Edges.due("digits()", x.digits(), 2100);
        Edges.due("under(0) of seven and one", two(7, 0, 1, 0).under(0), Edges.FULL);
        Edges.due("under(0) of one and seven", two(1, 0, 7, 0).under(0), Edges.FULL);
    }

    @Edges.Says(promise = 30, words = "NONE; EMPTY; FULL.")
    private static void underOfNoShelf() {
        Edges.takes("under", Edges::shelved, LeaningTrees::under, 0, 3, Edges.NONE);
        Edges.takes("under where all is full", () -> two(7, 0, 7, 0), LeaningTrees::under, 0, 3, Edges.NONE);
    }

    @Edges.Says(promise = 30, words = "EMPTY")
    private static void underOfAnEmptyShelfIsEmptyAheadOfFull() {
        Edges.due("under(3)", Edges.shelved().under(3), Edges.EMPTY);
        LeaningTrees x = Edges.tree(7, 0);
        for (int shelf = 0; shelf <= 3; shelf++) {
            Edges.due("under of seven nodes", x.under(shelf), Edges.EMPTY);
        }
    }

    @Edges.Says(words = "off() of these brings the NODES back, too")
    private static void offOfOverAndUnder() {
        LeaningTrees x = two(2, 10, 3, 10);
        int steps = x.count(1);
        x.over(0);
        Edges.due("count(1) behind over()", x.count(1), steps + 1);
        Edges.due("off()", x.off(), steps);
        Edges.due("count(0)", x.count(0), 2);
        Edges.due("digits()", x.digits(), 10);
        x.under(0);
        Edges.due("count(1) behind under()", x.count(1), steps + 1);
        Edges.due("off()", x.off(), steps);
        Edges.due("count(0)", x.count(0), 2);
        Edges.due("digits()", x.digits(), 10);
        Edges.due("shelf(0, 0)", x.shelf(0, 0), 3);
    }

    @Edges.Says(words = "What tells what is so already is no STEP, also by over(), under()")
    private static void overAndUnderAreStepsJustIfTheyAreNotRefused() {
        LeaningTrees x = two(1, 0, 1, 0);
        for (int n = 2; n <= 7; n++) {
            Edges.due("over() or under()", n % 2 == 0 ? x.over(0) : x.under(0), n);
            Edges.due("count(1), NODES are more, so it is otherwise", x.count(1), n - 1);
        }
        x.over(0);
        x.under(0);
        Edges.due("count(1) behind FULL", x.count(1), 6);
        x = two(7, 10, 7, 10);
        int steps = x.count(1);
        x.over(0);
        x.under(0);
        x.over(1);
        x.under(4);
        Edges.due("count(1)", x.count(1), steps);
    }

    // ---- 31 shelf

    @Edges.Says(promise = 31, words = "NODES of the TREE of a SHELF (what 0), its NUMBER (1), its ROW as digits (2).")
    private static void shelfOfEachSize() {
        for (int held = 1; held <= 7; held++) {
            LeaningTrees x = two(3, 10, held, Edges.GREATEST[held]);
            Edges.due("shelf(0, 0)", x.shelf(0, 0), held);
            Edges.due("shelf(0, 1)", x.shelf(0, 1), Edges.MANY[held] - 1);
            Edges.due("shelf(0, 2)", x.shelf(0, 2), Edges.GREATEST[held]);
            x = two(3, 10, held, 0);
            Edges.due("shelf(0, 0)", x.shelf(0, 0), held);
            Edges.due("shelf(0, 1)", x.shelf(0, 1), 0);
            Edges.due("shelf(0, 2)", x.shelf(0, 2), 0);
        }
    }

    @Edges.Says(promise = 31, words = "NONE; EMPTY.")
    private static void shelfNone() {
        for (int what = 0; what <= 2; what++) {
            int asked = what;
            Edges.takes("shelf(.., " + what + ")", Edges::shelved, (x, shelf) -> x.shelf(shelf, asked), 0, 3, Edges.NONE);
        }
        for (int held = 0; held <= 3; held++) {
            int shelf = held;
            Edges.takes("shelf(" + held + ", ..)", Edges::shelved, (x, what) -> x.shelf(shelf, what), 0, 2, Edges.NONE);
        }
        Edges.due("shelf(4, 3)", Edges.shelved().shelf(4, 3), Edges.NONE);
    }

    @Edges.Says(promise = 31, words = "EMPTY")
    private static void shelfEmpty() {
        LeaningTrees x = Edges.shelved();
        for (int what = 0; what <= 2; what++) {
            Edges.due("shelf(3, " + what + ")", x.shelf(3, what), Edges.EMPTY);
        }
        x.lose(0);
        Edges.due("shelf(0, 0)", x.shelf(0, 0), Edges.EMPTY);
    }

    // ---- 32 list

    @Edges.Says(promise = 32, words = "A LIST holds n longs (0 .. 20), all 0, or is missing (n -1): 1.")
    private static void listOfEachLength() {
        for (int list = 0; list <= 2; list++) {
            for (int n = -1; n <= 20; n++) {
                LeaningTrees x = new LeaningTrees();
                x.list(list, 20);
                for (int i = 0; i < 20; i++) {
                    x.put(list, i, 7);
                }
                Edges.due("list(" + list + ", " + n + ")", x.list(list, n), 1);
                Edges.due("count(4)", x.count(4), n == -1 ? 0 : 1);
                for (int i = 0; i < 20; i++) {
                    Edges.due("get(" + list + ", " + i + ") of " + n, x.get(list, i), i < n ? 0 : Edges.VOID);
                }
                x.list(list, 20);
                Edges.due("get(" + list + ", 19), longer again", x.get(list, 19), 0);
            }
        }
    }

    @Edges.Says(promise = 32, words = "or is missing (n -1): 1.")
    private static void listThatIsMissingAlready() {
        LeaningTrees x = new LeaningTrees();
        Edges.due("list(0, -1)", x.list(0, -1), 1);
        Edges.due("count(4)", x.count(4), 0);
        Edges.due("play(0)", x.play(0), Edges.MISSING);
    }

    @Edges.Says(promise = 32, words = "NONE: list")
    private static void listOfNoList() {
        for (int n : new int[] {-2, -1, 0, 20, 21, Integer.MIN_VALUE, Integer.MAX_VALUE}) {
            Edges.takes("list(.., " + n + ")", LeaningTrees::new, (x, list) -> x.list(list, n), 0, 2, Edges.NONE);
        }
    }

    @Edges.Says(promise = 32, words = "BAD: n above 20")
    private static void listOfMoreThanTwenty() {
        for (int n : new int[] {21, 22, 60, 1 << 16, 1 << 30, Integer.MAX_VALUE}) {
            for (int list = 0; list <= 2; list++) {
                LeaningTrees x = listed();
                Edges.due("list(" + list + ", " + n + ")", x.list(list, n), Edges.BAD);
                Edges.due("count(4)", x.count(4), 2);
            }
        }
    }

    @Edges.Says(promise = 32, words = "BELOW: n below -1.")
    private static void listOfFewerThanMissing() {
        for (int n : new int[] {-2, -3, -20, -1 << 16, -1 << 30, Integer.MIN_VALUE}) {
            for (int list = 0; list <= 2; list++) {
                LeaningTrees x = listed();
                Edges.due("list(" + list + ", " + n + ")", x.list(list, n), Edges.BELOW);
                Edges.due("count(4)", x.count(4), 2);
            }
        }
    }

    @Edges.Says(words = "LISTS 0 .. 2 are missing (at first), or hold 0 .. 20 longs.")
    private static void listsAreEachTheirOwn() {
        LeaningTrees x = new LeaningTrees();
        for (int list = 0; list <= 2; list++) {
            x.list(list, 20);
            x.put(list, 19, 10 + list);
        }
        for (int list = 0; list <= 2; list++) {
            Edges.due("get(" + list + ", 19)", x.get(list, 19), 10 + list);
        }
        x.list(1, -1);
        Edges.due("get(0, 19)", x.get(0, 19), 10);
        Edges.due("get(1, 19)", x.get(1, 19), Edges.VOID);
        Edges.due("get(2, 19)", x.get(2, 19), 12);
    }

    // ---- 33, 34 put, get

    @Edges.Says(promise = 33, words = "Place i of a LIST becomes v: 1.")
    private static void putAtTheFirstAndTheLastPlace() {
        long[] values = {0, 1, -1, Integer.MAX_VALUE, 1L + Integer.MAX_VALUE, Integer.MIN_VALUE, 1L << 32, Long.MAX_VALUE,
            Long.MIN_VALUE + 1, Long.MIN_VALUE};
        for (long v : values) {
            for (int length = 1; length <= 20; length++) {
                LeaningTrees x = withList(length);
                Edges.due("put(1, 0, v)", x.put(1, 0, 5), 1);
                Edges.due("put at the last place", x.put(1, length - 1, v), 1);
                Edges.due("get of the last place", x.get(1, length - 1), v);
                if (length > 1) {
                    Edges.due("get(1, 0)", x.get(1, 0), 5);
                }
            }
        }
    }

    @Edges.Says(promise = 33, words = "NONE; MISSING; PLACE.")
    private static void putIntoNoList() {
        Edges.takes("put(.., 0, 1)", ShelfEdgesTest::listed, (x, list) -> x.put(list, 0, 1), 0, 2, Edges.NONE);
        for (int i : new int[] {-1, 2, 20, 21, Integer.MIN_VALUE, Integer.MAX_VALUE}) {
            Edges.due("put(3, " + i + ", 1), NONE is ahead of PLACE", listed().put(3, i, 1), Edges.NONE);
            Edges.due("put(-1, " + i + ", 1)", listed().put(-1, i, 1), Edges.NONE);
        }
    }

    @Edges.Says(promise = 33, words = "MISSING; PLACE.")
    private static void putIntoAMissingList() {
        LeaningTrees x = listed();
        for (int i : new int[] {0, 1, 19, 20, -1, Integer.MIN_VALUE, Integer.MAX_VALUE}) {
            Edges.due("put(2, " + i + ", 1)", x.put(2, i, 1), Edges.MISSING);
        }
        x.list(1, -1);
        Edges.due("put(1, 0, 1) of one that was there", x.put(1, 0, 1), Edges.MISSING);
        Edges.due("count(4)", x.count(4), 1);
    }

    @Edges.Says(promise = 33, words = "PLACE.")
    private static void putAtNoPlace() {
        for (int length = 0; length <= 20; length++) {
            int held = length;
            Edges.takes("put(1, .., 1) of " + length, () -> withList(held), (x, i) -> x.put(1, i, 1), 0, length - 1, Edges.PLACE);
        }
        Edges.due("put(0, 0, 1) of a LIST of none", listed().put(0, 0, 1), Edges.PLACE);
    }

    @Edges.Says(promise = 34, words = "Place i of a LIST.")
    private static void getAtTheFirstAndTheLastPlace() {
        LeaningTrees x = withList(20);
        for (int i = 0; i < 20; i++) {
            x.put(1, i, 1000L * i);
        }
        for (int i = 0; i < 20; i++) {
            Edges.due("get(1, " + i + ")", x.get(1, i), 1000L * i);
        }
    }

    @Edges.Says(promise = 34, words = "VOID: no such LIST, missing, no such place.")
    private static void getOfNoList() {
        Edges.takes("get(.., 0)", () -> {
            LeaningTrees x = listed();
            x.list(0, 1);
            x.list(2, 1);
            return x;
        }, (x, list) -> x.get(list, 0), 0, 2, Edges.VOID);
    }

    @Edges.Says(promise = 34, words = "missing, no such place.")
    private static void getOfAMissingList() {
        LeaningTrees x = listed();
        for (int i : new int[] {0, 1, 19, 20, -1, Integer.MIN_VALUE, Integer.MAX_VALUE}) {
            Edges.due("get(2, " + i + ")", x.get(2, i), Edges.VOID);
        }
        x.list(1, -1);
        Edges.due("get(1, 0) of one that was there", x.get(1, 0), Edges.VOID);
    }

    @Edges.Says(promise = 34, words = "no such place.")
    private static void getOfNoPlace() {
        for (int length = 0; length <= 20; length++) {
            int held = length;
            Edges.takes("get(1, ..) of " + length, () -> withList(held), (x, i) -> x.get(1, i), 0, length - 1, Edges.VOID);
        }
    }

    // ---- 35 play

    @Edges.Says(promise = 35, words = "PLAYED, truly: how many TURNS were done.")
    private static void playOfNoneAndOfTwenty() {
        LeaningTrees x = new LeaningTrees();
        x.list(0, 0);
        Edges.due("play(0) of a LIST of none", x.play(0), 0);
        Edges.due("count(1)", x.count(1), 0);
        x.list(0, 20);
        for (int i = 0; i < 20; i++) {
            x.put(0, i, i % 2 == 0 ? 1 : -2);
        }
        Edges.due("play(0) of twenty", x.play(0), 20);
        Edges.due("digits()", x.digits(), 0);
        Edges.due("count(1)", x.count(1), 10);
        Edges.due("get(0, 19), the LIST stays", x.get(0, 19), -2);
    }

    @Edges.Says(words = "c (0 ..): UP at NODE c; -1 less c: BACK at NODE c")
    private static void playAtEachNode() {
        for (int n = 2; n <= 7; n++) {
            for (int c = 0; c <= n - 2; c++) {
                LeaningTrees x = Edges.tree(n, 0);
                LeaningTrees y = Edges.tree(n, 0);
                y.turn(c);
                Edges.putAll(x, 0, c);
                Edges.due("play of UP at " + c, x.play(0), 1);
                Edges.due("digits()", x.digits(), y.digits());
                Edges.putAll(x, 0, -1 - c);
                Edges.due("play of BACK at " + c, x.play(0), 1);
                Edges.due("digits()", x.digits(), 0);
            }
        }
    }

    @Edges.Says(words = "it ends ahead of the first that can't be")
    private static void playEndsAheadOfWhatCannotBe() {
        for (int place = 0; place <= 4; place++) {
            LeaningTrees x = new LeaningTrees();
            Edges.putAll(x, 2, 0, -1, 0, -1, 0);
            x.put(2, place, 2);
            Edges.due("play(2) with UP at the last NODE at " + place, x.play(2), place);
            Edges.due("digits()", x.digits(), place % 2 == 0 ? 0 : 100);
            Edges.due("count(1)", x.count(1), place);
        }
        LeaningTrees x = new LeaningTrees();
        Edges.putAll(x, 2, -1, 0);
        Edges.due("play(2) of BACK at what has no right child", x.play(2), 0);
        Edges.due("digits()", x.digits(), 0);
        Edges.putAll(x, 2, 0, 0, 0);
        Edges.due("play(2) of UP at what has become the root", x.play(2), 2);
        Edges.due("digits()", x.digits(), 200);
    }

    @Edges.Says(words = "A number in a LIST that is no NODE, however great, ends play().")
    private static void playEndsAtWhatIsNoNode() {
        long[] far = {7, 8, -9, 100, -100, 255, 256, 65536, Integer.MAX_VALUE, Integer.MIN_VALUE, 1L + Integer.MAX_VALUE,
            -1L + Integer.MIN_VALUE, 1L << 32, (1L << 32) + 1, -1 - (1L << 32), -(1L << 32), 1L << 40, 1L << 62, -1L << 62,
            Long.MAX_VALUE, Long.MAX_VALUE - 1, Long.MIN_VALUE, Long.MIN_VALUE + 1, Long.MIN_VALUE + 2};
        for (int n = 2; n <= 7; n++) {
            for (long v : far) {
                LeaningTrees x = Edges.tree(n, 0);
                Edges.putAll(x, 0, 0, v, 0);
                Edges.due("play(0) with " + v + " of " + n, x.play(0), 1);
                Edges.due("count(1)", x.count(1), 1);
                x = Edges.tree(n, Edges.GREATEST[n]);
                Edges.putAll(x, 0, -1, v, 0);
                Edges.due("play(0) with " + v + " of " + n, x.play(0), 1);
            }
            for (long v : new long[] {n, -1 - n, n + 1, -2 - n}) {
                LeaningTrees x = Edges.tree(n, 0);
                Edges.putAll(x, 0, 0, v);
                Edges.due("play(0) with " + v + " of " + n, x.play(0), 1);
            }
        }
        LeaningTrees x = Edges.tree(1, 0);
        for (long v : new long[] {0, -1, 1, -2, Long.MAX_VALUE, Long.MIN_VALUE}) {
            Edges.putAll(x, 0, v);
            Edges.due("play(0) of one NODE", x.play(0), 0);
        }
    }

    @Edges.Says(words = "of a play() of more than ten TURNS the latest ten can be taken off")
    private static void ofAPlayOfElevenTheLatestTenCanBeTakenOff() {
        for (int turns = 9; turns <= 20; turns++) {
            LeaningTrees x = new LeaningTrees();
            x.list(0, turns);
            for (int i = 0; i < turns; i++) {
                x.put(0, i, i % 2 == 0 ? 0 : -1);
            }
            Edges.due("play(0)", x.play(0), turns);
            int left = Math.min(10, turns);
            Edges.due("count(1)", x.count(1), left);
            for (int i = 1; i <= left; i++) {
                Edges.due("off()", x.off(), left - i);
                Edges.due("digits()", x.digits(), (turns - i) % 2 == 0 ? 0 : 100);
            }
            Edges.due("off()", x.off(), Edges.STATE);
        }
    }

    @Edges.Says(words = "play() (each TURN of it one)")
    private static void turnsPlayedPushOutElderSteps() {
        LeaningTrees x = Edges.tree(4, 0);
        x.number(3);
        x.number(13);
        Edges.putAll(x, 0, -1, 0, -1, 0, -1, 0, -1, 0, -1);
        Edges.due("play(0) of nine", x.play(0), 9);
        Edges.due("count(1)", x.count(1), 10);
        for (int i = 9; i >= 1; i--) {
            Edges.due("off()", x.off(), i);
        }
        Edges.due("which()", x.which(), 13);
        Edges.due("off()", x.off(), 0);
        Edges.due("which(), the second STEP is the eldest", x.which(), 3);
        Edges.due("off()", x.off(), Edges.STATE);
    }

    @Edges.Says(promise = 35, words = "NONE; MISSING.")
    private static void playOfNoList() {
        Edges.takes("play", ShelfEdgesTest::listed, LeaningTrees::play, 0, 2, Edges.NONE);
    }

    @Edges.Says(promise = 35, words = "MISSING.")
    private static void playOfAMissingList() {
        LeaningTrees x = listed();
        Edges.due("play(2)", x.play(2), Edges.MISSING);
        Edges.due("play(0), a LIST of none is not missing", x.play(0), 0);
        x.list(0, -1);
        Edges.due("play(0)", x.play(0), Edges.MISSING);
    }

    // ---- 36 film

    @Edges.Says(promise = 36, words = "A LIST becomes the TURNS of a WAY from THE TREE to that of a SHELF, each the first as of way() from where one is then, as PLAYED tells them: how many.")
    private static void filmIsAsWayTells() {
        for (int n = 1; n <= 5; n++) {
            for (int k = 0; k < Edges.MANY[n]; k++) {
                for (int goal = 0; goal < Edges.MANY[n]; goal++) {
                    LeaningTrees x = Edges.tree(n, 0);
                    x.number(goal);
                    x.keep(1);
                    x.number(k);
                    int turns = x.way(1, 0);
                    Edges.due("film(2, 1)", x.film(2, 1), turns);
                    Edges.due("get behind the last", x.get(2, turns), Edges.VOID);
                    Edges.due("which(), it is not PLAYED", x.which(), k);
                    for (int i = 0; i < turns; i++) {
                        int first = x.way(1, 1);
                        Edges.due("get(2, " + i + ")", x.get(2, i), first < 100 ? first : 99 - first);
                        if (first < 100) {
                            x.turn(first);
                        } else {
                            x.back(first - 100);
                        }
                    }
                    Edges.due("which()", x.which(), goal);
                    x.number(k);
                    Edges.due("play(2)", x.play(2), turns);
                    Edges.due("which()", x.which(), goal);
                }
            }
        }
    }

    @Edges.Says(words = "film() of like ones makes a LIST of 0 longs.")
    private static void filmOfLikeOnes() {
        for (int n = 1; n <= 7; n++) {
            LeaningTrees x = two(n, 0, n, 0);
            x.list(0, 5);
            Edges.due("film(0, 0)", x.film(0, 0), 0);
            Edges.due("get(0, 0)", x.get(0, 0), Edges.VOID);
            Edges.due("put(0, 0, 1)", x.put(0, 0, 1), Edges.PLACE);
            Edges.due("play(0)", x.play(0), 0);
            Edges.due("film(2, 0) of a missing LIST", x.film(2, 0), 0);
            Edges.due("count(4), it is there", x.count(4), 2);
            Edges.due("play(2)", x.play(2), 0);
        }
    }

    @Edges.Says(promise = 36, words = "A LIST becomes the TURNS")
    private static void filmIntoEachList() {
        for (int list = 0; list <= 2; list++) {
            for (int length : new int[] {-1, 0, 1, 2, 20}) {
                LeaningTrees x = Edges.pair(3, 0, 210);
                x.list(list, length);
                for (int i = 0; i < length; i++) {
                    x.put(list, i, 99);
                }
                Edges.due("film(" + list + ", 0)", x.film(list, 0), 2);
                Edges.due("get(.., 0)", x.get(list, 0), 1);
                Edges.due("get(.., 1)", x.get(list, 1), 0);
                Edges.due("get(.., 2), nothing else is left in it", x.get(list, 2), Edges.VOID);
                Edges.due("count(4)", x.count(4), 1);
            }
        }
    }

    @Edges.Says(promise = 36, words = "NONE: either; EMPTY; OTHER; FULL: more than 20.")
    private static void filmOfNoListOrNoShelf() {
        Edges.takes("film(.., 0)", Edges::shelved, (x, list) -> x.film(list, 0), 0, 2, Edges.NONE);
        for (int shelf = -1; shelf <= 4; shelf++) {
            int held = shelf;
            Edges.due("film(3, " + shelf + ")", Edges.shelved().film(3, held), Edges.NONE);
            Edges.due("film(-1, " + shelf + ")", Edges.shelved().film(-1, held), Edges.NONE);
        }
        for (int list = 0; list <= 2; list++) {
            int told = list;
            Edges.takes("film(" + list + ", ..)", Edges::shelved, (x, shelf) -> x.film(told, shelf), 0, 3, Edges.NONE);
        }
    }

    @Edges.Says(promise = 36, words = "EMPTY; OTHER; FULL")
    private static void filmOfAnEmptyShelf() {
        LeaningTrees x = Edges.shelved();
        Edges.due("film(0, 3)", x.film(0, 3), Edges.EMPTY);
        Edges.due("count(4), no LIST is made", x.count(4), 0);
        Edges.putAll(x, 1, 4, 5);
        Edges.due("film(1, 3)", x.film(1, 3), Edges.EMPTY);
        Edges.due("get(1, 0)", x.get(1, 0), 4);
        Edges.due("get(1, 1)", x.get(1, 1), 5);
    }

    @Edges.Says(promise = 36, words = "OTHER; FULL")
    private static void filmOfOtherNodes() {
        LeaningTrees x = Edges.shelved();
        Edges.due("film(0, 1), of more", x.film(0, 1), Edges.OTHER);
        Edges.due("film(0, 2), of fewer", x.film(0, 2), Edges.OTHER);
        Edges.due("count(4), no LIST is made", x.count(4), 0);
        Edges.putAll(x, 1, 4, 5);
        Edges.due("film(1, 1)", x.film(1, 1), Edges.OTHER);
        Edges.due("get(1, 1)", x.get(1, 1), 5);
    }

    /** No WAY of seven NODES has more than nine TURNS, so what can be looked at is that the longest are never FULL. */
    @Edges.Says(promise = 36, words = "FULL: more than 20.")
    private static void filmOfTheLongestWaysIsNotFull() {
        int longest = 0;
        for (int k = 0; k < Edges.MANY[7]; k++) {
            LeaningTrees x = Edges.tree(7, 0);
            x.number(k);
            int far = x.far(0);
            int goal = x.far(2);
            x.number(goal);
            x.keep(0);
            x.number(k);
            Edges.due("film(0, 0) from " + k + " to " + goal, x.film(0, 0), far);
            Edges.due("play(0)", x.play(0), far);
            Edges.due("which()", x.which(), goal);
            longest = Math.max(longest, far);
        }
        Edges.due("the longest", longest, 9);
    }
}
