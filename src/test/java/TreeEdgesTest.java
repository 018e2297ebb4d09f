/** The sentences of promises 1 to 13, and of the terms about trees, turns and steps, that name a boundary. */
public final class TreeEdgesTest {
    private TreeEdgesTest() {
    }

    public static void main(String[] args) {
        Edges.run(TreeEdgesTest.class);
    }

    private static LeaningTrees made(int n) {
        return Edges.tree(n, 0);
    }

    /** THE TREE with a number, in a new object. */
    private static LeaningTrees numbered(int n, int k) {
        LeaningTrees x = made(n);
        x.number(k);
        return x;
    }

    private static int power(int n) {
        int power = 1;
        for (int i = 0; i < n; i++) {
            power *= 10;
        }
        return power;
    }

    /** Digits of a row of n numbers that has b at i, and 0 else. */
    private static int at(int n, int i, int b) {
        return b * power(n - 1 - i);
    }

    // ---- 1 A new object

    @Edges.Says(promise = 1, words = "Three NODES, all b 0.")
    private static void aNewObjectHasThreeNodes() {
        LeaningTrees x = new LeaningTrees();
        Edges.due("count(0)", x.count(0), 3);
        Edges.due("digits()", x.digits(), 0);
        Edges.due("which()", x.which(), 0);
        for (int i = 0; i < 3; i++) {
            Edges.due("of(" + i + ", 0)", x.of(i, 0), 0);
        }
        Edges.due("of(3, 0)", x.of(3, 0), Edges.NONE);
        Edges.dueText("written", Edges.written(x), "(((..).).)");
    }

    @Edges.Says(words = "SHELVES 0 .. 3 hold nothing (at first)")
    private static void aNewObjectHasEmptyShelves() {
        LeaningTrees x = new LeaningTrees();
        for (int shelf = 0; shelf <= 3; shelf++) {
            for (int what = 0; what <= 2; what++) {
                Edges.due("shelf(" + shelf + ", " + what + ")", x.shelf(shelf, what), Edges.EMPTY);
            }
        }
        Edges.due("count(3)", x.count(3), 0);
    }

    @Edges.Says(words = "LISTS 0 .. 2 are missing (at first)")
    private static void aNewObjectHasNoLists() {
        LeaningTrees x = new LeaningTrees();
        for (int list = 0; list <= 2; list++) {
            Edges.due("get(" + list + ", 0)", x.get(list, 0), Edges.VOID);
            Edges.due("put(" + list + ", 0, 1)", x.put(list, 0, 1), Edges.MISSING);
            Edges.due("play(" + list + ")", x.play(list), Edges.MISSING);
        }
        Edges.due("count(4)", x.count(4), 0);
    }

    @Edges.Says(words = "THE TAPE holds 0 .. 60 bytes")
    private static void aNewObjectHasAnEmptyTapeNoStepsNoImage() {
        LeaningTrees x = new LeaningTrees();
        Edges.due("count(2)", x.count(2), 0);
        Edges.due("count(1)", x.count(1), 0);
        Edges.due("wipe()", x.wipe(), 0);
        Edges.due("off()", x.off(), Edges.STATE);
        Edges.due("undo()", x.undo(), Edges.STATE);
        Edges.due("read()", x.read(), -100);
    }

    @Edges.Says(promise = 1, words = "A new object")
    private static void objectsKnowNothingOfOneAnother() {
        LeaningTrees x = new LeaningTrees();
        x.nodes(7);
        x.number(428);
        x.keep(0);
        x.list(0, 20);
        x.feed(40);
        x.image();
        LeaningTrees y = new LeaningTrees();
        Edges.due("count(0) of another object", y.count(0), 3);
        Edges.due("digits() of another object", y.digits(), 0);
        for (int what = 1; what <= 4; what++) {
            Edges.due("count of another object", y.count(what), 0);
        }
        Edges.due("undo() of another object", y.undo(), Edges.STATE);
    }

    // ---- 2 nodes

    @Edges.Says(promise = 2, words = "THE TREE has n NODES, all b 0: how many it had.")
    private static void nodesFromOneToSeven() {
        for (int from = 1; from <= 7; from++) {
            for (int to = 1; to <= 7; to++) {
                LeaningTrees x = numbered(from, Edges.MANY[from] - 1);
                Edges.due("nodes(" + to + ")", x.nodes(to), from);
                Edges.due("count(0)", x.count(0), to);
                Edges.due("digits()", x.digits(), 0);
                Edges.due("of(n less 1, 0)", x.of(to - 1, 0), 0);
                Edges.due("of(n, 0)", x.of(to, 0), Edges.NONE);
            }
        }
    }

    @Edges.Says(promise = 2, words = "BAD.")
    private static void nodesOfNoneAndOfEightAreBad() {
        Edges.takes("nodes", LeaningTrees::new, LeaningTrees::nodes, 1, 7, Edges.BAD);
        LeaningTrees x = Edges.tree(4, 2100);
        for (int n : new int[] {0, 8, -1, Integer.MIN_VALUE, Integer.MAX_VALUE}) {
            Edges.due("nodes(" + n + ")", x.nodes(n), Edges.BAD);
            Edges.due("count(0)", x.count(0), 4);
            Edges.due("digits()", x.digits(), 2100);
        }
    }

    @Edges.Says(words = "nodes() and read(), where they are not refused, and undo() leave none.")
    private static void nodesLeavesNoSteps() {
        LeaningTrees x = Edges.tree(4, 2100);
        x.nodes(8);
        x.nodes(0);
        Edges.due("count(1) behind a refused nodes()", x.count(1), 1);
        x.nodes(5);
        Edges.due("count(1) behind nodes(5)", x.count(1), 0);
        Edges.due("off()", x.off(), Edges.STATE);
        x.number(1);
        x.number(0);
        x.nodes(5);
        Edges.due("count(1) behind nodes() that changes no tree", x.count(1), 0);
    }

    // ---- 3 row

    @Edges.Says(promise = 3, words = "THE TREE becomes that of as many NODES whose ROW the digits tell (b(0) the highest): its NUMBER.")
    private static void theLeastAndTheGreatestRow() {
        for (int n = 1; n <= 7; n++) {
            LeaningTrees x = made(n);
            Edges.due("row of the greatest of " + n, x.row(Edges.GREATEST[n]), Edges.MANY[n] - 1);
            Edges.due("which()", x.which(), Edges.MANY[n] - 1);
            Edges.due("row(0) of " + n, x.row(0), 0);
            Edges.due("which()", x.which(), 0);
            Edges.due("count(0)", x.count(0), n);
        }
    }

    private static boolean isRow(int n, int digits) {
        int[] b = new int[n];
        int rest = digits;
        for (int i = n - 1; i >= 0; i--) {
            b[i] = rest % 10;
            rest /= 10;
        }
        boolean so = digits >= 0 && rest == 0;
        for (int i = 0; so && i < n; i++) {
            so = b[i] <= n - 1 - i;
            for (int j = i + 1; so && j <= i + b[i]; j++) {
                so = j + b[j] <= i + b[i];
            }
        }
        return so;
    }

    @Edges.Says(promise = 3, words = "BAD: it is no such ROW.")
    private static void allDigitsThatAreNoRowAreBad() {
        for (int n = 1; n <= 5; n++) {
            int number = 0;
            LeaningTrees x = null;
            for (int digits = -20; digits <= power(n) + 20; digits++) {
                if (x == null || digits % 250 == 0) {
                    x = made(n);
                }
                boolean so = isRow(n, digits);
                Edges.due("row(" + digits + ") of " + n, x.row(digits), so ? number : Edges.BAD);
                number += so ? 1 : 0;
            }
            Edges.due("how many rows of " + n, number, Edges.MANY[n]);
        }
    }

    @Edges.Says(promise = 3, words = "BAD: it is no such ROW.")
    private static void moreDigitsThanNodesAreBad() {
        for (int n = 1; n <= 7; n++) {
            LeaningTrees x = made(n);
            for (int high = 1; high <= 9; high++) {
                Edges.due("row of n and 1 digits", x.row(high * power(n)), Edges.BAD);
                Edges.due("row of n and 1 digits", x.row(high * power(n) + Edges.GREATEST[n]), Edges.BAD);
            }
            Edges.due("row(10 ^ 8)", x.row(100000000), Edges.BAD);
            Edges.due("row(10 ^ 9)", x.row(1000000000), Edges.BAD);
            Edges.due("count(1)", x.count(1), 0);
        }
    }

    @Edges.Says(promise = 3, words = "BAD: it is no such ROW.")
    private static void digitsBelowNoneAndFarOutAreBad() {
        for (int n = 1; n <= 7; n++) {
            LeaningTrees x = numbered(n, Edges.MANY[n] - 1);
            for (int digits : Edges.FAR) {
                Edges.due("row(" + digits + ") of " + n, x.row(digits), isRow(n, digits) ? x.which() : Edges.BAD);
            }
            Edges.due("row(-1)", x.row(-1), Edges.BAD);
            Edges.due("row of 0 less the greatest", x.row(-Math.max(1, Edges.GREATEST[n])), Edges.BAD);
            Edges.due("row of the greatest and 1", x.row(Edges.GREATEST[n] + 1), Edges.BAD);
        }
    }

    @Edges.Says(words = "b(i) is 0 .. n less 1 less i")
    private static void theGreatestNumberOfEachNode() {
        for (int n = 1; n <= 7; n++) {
            for (int i = 0; i < n; i++) {
                LeaningTrees x = made(n);
                for (int b = 0; b <= 9; b++) {
                    boolean taken = x.row(at(n, i, b)) != Edges.BAD;
                    Edges.due("b(" + i + ") = " + b + " of " + n + " is taken", taken ? 1 : 0, b <= n - 1 - i ? 1 : 0);
                    Edges.due("of(i, 0)", x.of(i, 0), Math.min(b, n - 1 - i));
                }
            }
        }
    }

    @Edges.Says(words = "for each j of i and 1 .. i plus b(i) j plus b(j) is i plus b(i) at most")
    private static void whatIsRightOfANodeEndsWhereItDoes() {
        for (int i = 0; i < 7; i++) {
            for (int b = 1; i + b < 7; b++) {
                LeaningTrees x = made(7);
                for (int j = i + 1; j <= i + b; j++) {
                    int both = at(7, i, b) + at(7, j, i + b - j);
                    Edges.due("row(" + both + ")", x.row(both), x.which());
                    Edges.due("digits()", x.digits(), both);
                    Edges.due("one more at j", x.row(both + at(7, j, 1)), Edges.BAD);
                    Edges.due("digits()", x.digits(), both);
                }
                if (i + b + 1 < 7) {
                    int behind = at(7, i, b) + at(7, i + b + 1, 7 - 1 - (i + b + 1));
                    x.row(behind);
                    Edges.due("just behind what is right of i all is free", x.digits(), behind);
                }
            }
        }
    }

    // ---- 4 of

    @Edges.Says(promise = 4, words = "its parent (1; NOT: none)")
    private static void justTheRootHasNoParent() {
        for (int n = 1; n <= 7; n++) {
            for (int k = 0; k < Edges.MANY[n]; k++) {
                LeaningTrees x = numbered(n, k);
                int roots = 0;
                for (int i = 0; i < n; i++) {
                    boolean root = x.of(i, 1) == Edges.NOT;
                    roots += root ? 1 : 0;
                    Edges.due("nothing is above just the root", x.of(i, 5) == 0 ? 1 : 0, root ? 1 : 0);
                }
                Edges.due("roots of " + k + " of " + n, roots, 1);
            }
        }
    }

    @Edges.Says(promise = 4, words = "its left child (2; NOT)")
    private static void theFirstNodeHasNoLeftChild() {
        for (int n = 1; n <= 7; n++) {
            for (int k = 0; k < Edges.MANY[n]; k++) {
                LeaningTrees x = numbered(n, k);
                Edges.due("of(0, 2)", x.of(0, 2), Edges.NOT);
                for (int i = 0; i < n; i++) {
                    Edges.due("NOT, just if the left subtree has no NODES", x.of(i, 2) == Edges.NOT ? 1 : 0, x.of(i, 4) == 0 ? 1 : 0);
                }
            }
        }
    }

    @Edges.Says(promise = 4, words = "its right child (3; NOT)")
    private static void theLastNodeHasNoRightChild() {
        for (int n = 1; n <= 7; n++) {
            for (int k = 0; k < Edges.MANY[n]; k++) {
                LeaningTrees x = numbered(n, k);
                Edges.due("of(n less 1, 3)", x.of(n - 1, 3), Edges.NOT);
                for (int i = 0; i < n; i++) {
                    Edges.due("NOT, just if b is 0", x.of(i, 3) == Edges.NOT ? 1 : 0, x.of(i, 0) == 0 ? 1 : 0);
                }
            }
        }
    }

    @Edges.Says(promise = 4, words = "how many NODES its left subtree has (4), how many NODES are above it (5)")
    private static void theMostAtTheLeftAndAbove() {
        for (int n = 1; n <= 7; n++) {
            LeaningTrees x = made(n);
            Edges.due("of(n less 1, 4), all lean left", x.of(n - 1, 4), n - 1);
            Edges.due("of(n less 1, 5), the root", x.of(n - 1, 5), 0);
            Edges.due("of(0, 4)", x.of(0, 4), 0);
            Edges.due("of(0, 5), the deepest", x.of(0, 5), n - 1);
            x.mirror();
            Edges.due("of(0, 0), all lean right", x.of(0, 0), n - 1);
            Edges.due("of(0, 5), the root", x.of(0, 5), 0);
            Edges.due("of(n less 1, 4)", x.of(n - 1, 4), 0);
            Edges.due("of(n less 1, 5), the deepest", x.of(n - 1, 5), n - 1);
        }
    }

    @Edges.Says(promise = 4, words = "NONE.")
    private static void noSuchNodeNoSuchQuestion() {
        for (int n = 1; n <= 7; n++) {
            int nodes = n;
            for (int what = 0; what <= 5; what++) {
                int asked = what;
                Edges.takes("of(.., " + what + ") of " + n, () -> made(nodes), (x, i) -> x.of(i, asked), 0, n - 1, Edges.NONE);
            }
            for (int i = 0; i < n; i++) {
                int node = i;
                Edges.takes("of(" + i + ", ..) of " + n, () -> made(nodes), (x, what) -> x.of(node, what), 0, 5, Edges.NONE);
            }
            Edges.due("of(n, 6)", made(n).of(n, 6), Edges.NONE);
            Edges.due("of(-1, -1)", made(n).of(-1, -1), Edges.NONE);
        }
    }

    // ---- 5, 6, 7, 8 number, which, many, digits

    @Edges.Says(promise = 5, words = "THE TREE becomes that of as many NODES with a NUMBER: NUMBER it had.")
    private static void theFirstAndTheLastNumber() {
        for (int n = 1; n <= 7; n++) {
            int last = Edges.MANY[n] - 1;
            LeaningTrees x = made(n);
            Edges.due("number of the last", x.number(last), 0);
            Edges.due("digits()", x.digits(), Edges.GREATEST[n]);
            Edges.due("number(0)", x.number(0), last);
            Edges.due("digits()", x.digits(), 0);
            Edges.due("count(0)", x.count(0), n);
        }
    }

    @Edges.Says(promise = 5, words = "NONE.")
    private static void noSuchNumber() {
        for (int n = 1; n <= 7; n++) {
            int nodes = n;
            Edges.takes("number of " + n, () -> made(nodes), LeaningTrees::number, 0, Edges.MANY[n] - 1, Edges.NONE);
            LeaningTrees x = numbered(n, Edges.MANY[n] - 1);
            Edges.due("number(many)", x.number(Edges.MANY[n]), Edges.NONE);
            Edges.due("number(-1)", x.number(-1), Edges.NONE);
            Edges.due("which()", x.which(), Edges.MANY[n] - 1);
        }
    }

    @Edges.Says(words = "TREES of n NODES have NUMBERS 0, 1, .. by their ROWS (by b(0), of like ones by b(1), and so on).")
    private static void numbersRiseWithRowsAndMissNone() {
        for (int n = 1; n <= 7; n++) {
            int before = -1;
            for (int k = 0; k < Edges.MANY[n]; k++) {
                LeaningTrees x = numbered(n, k);
                Edges.due("which()", x.which(), k);
                Edges.due("digits() are a row", isRow(n, x.digits()) ? 1 : 0, 1);
                Edges.due("digits() rise", x.digits() > before ? 1 : 0, 1);
                before = x.digits();
            }
        }
    }

    @Edges.Says(promise = 6, words = "NUMBER of THE TREE.")
    private static void whichIsTheNumber() {
        for (int n = 1; n <= 7; n++) {
            LeaningTrees x = made(n);
            Edges.due("which() at first", x.which(), 0);
            x.row(Edges.GREATEST[n]);
            Edges.due("which() of the greatest", x.which(), Edges.MANY[n] - 1);
            Edges.due("which() again", x.which(), Edges.MANY[n] - 1);
        }
    }

    @Edges.Says(promise = 7, words = "How many TREES of n NODES there are.")
    private static void manyFromOneToSeven() {
        for (int own = 1; own <= 7; own++) {
            LeaningTrees x = made(own);
            for (int n = 1; n <= 7; n++) {
                Edges.due("many(" + n + ")", x.many(n), Edges.MANY[n]);
            }
            Edges.due("count(0)", x.count(0), own);
        }
    }

    @Edges.Says(promise = 7, words = "BAD.")
    private static void manyOfNoneAndOfEightAreBad() {
        Edges.takes("many", LeaningTrees::new, LeaningTrees::many, 1, 7, Edges.BAD);
    }

    @Edges.Says(promise = 8, words = "ROW of THE TREE as digits, b(0) the highest.")
    private static void digitsOfTheLeastAndTheGreatest() {
        for (int n = 1; n <= 7; n++) {
            Edges.due("digits() of the least", numbered(n, 0).digits(), 0);
            Edges.due("digits() of the greatest", numbered(n, Edges.MANY[n] - 1).digits(), Edges.GREATEST[n]);
            if (n > 1) {
                Edges.due("digits() of the second", numbered(n, 1).digits(), 10);
            }
        }
    }

    // ---- 9, 10, 11 turn, back, mayTurn

    @Edges.Says(promise = 9, words = "A TURN UP: NUMBER then.")
    private static void theFirstAndTheLastNodeThatCanTurnUp() {
        for (int n = 2; n <= 7; n++) {
            LeaningTrees x = made(n);
            Edges.due("turn(n less 2)", x.turn(n - 2), 1);
            Edges.due("digits()", x.digits(), 10);
            x = made(n);
            Edges.due("turn(0)", x.turn(0), x.which());
            Edges.due("digits()", x.digits(), at(n, 0, 1));
            for (int c = 0; c < n - 1; c++) {
                x = made(n);
                for (int b = 1; b <= n - 1 - c; b++) {
                    x.turn(c);
                    Edges.due("b(c)", x.digits(), at(n, c, b));
                }
                Edges.due("turn(" + c + ") where all behind it is right of it", x.turn(c), Edges.NOT);
            }
        }
    }

    @Edges.Says(words = "b(c) becomes b(c) plus 1 plus b(i), all else stays.")
    private static void aTurnUpChangesOneNumber() {
        for (int n = 2; n <= 7; n++) {
            for (int k = 0; k < Edges.MANY[n]; k++) {
                for (int c = 0; c < n; c++) {
                    LeaningTrees x = numbered(n, k);
                    int parent = x.of(c, 1);
                    int grown = parent < 0 ? 0 : 1 + x.of(parent, 0);
                    int before = x.digits();
                    if (x.turn(c) >= 0) {
                        Edges.due("digits() behind turn(" + c + ")", x.digits(), before + at(n, c, grown));
                        Edges.due("of(c, 3), what was above it", x.of(c, 3), parent);
                    }
                }
            }
        }
    }

    @Edges.Says(promise = 9, words = "NONE: c")
    private static void noSuchNodeToTurnUp() {
        for (int n = 1; n <= 7; n++) {
            int nodes = n;
            Edges.takes("turn of " + n, () -> made(nodes), LeaningTrees::turn, 0, n - 1, Edges.NONE);
        }
    }

    @Edges.Says(promise = 9, words = "NOT: it is no left child.")
    private static void rootsAndRightChildrenDoNotTurnUp() {
        for (int n = 1; n <= 7; n++) {
            for (int k = 0; k < Edges.MANY[n]; k++) {
                LeaningTrees x = numbered(n, k);
                Edges.due("turn() of the last NODE", x.turn(n - 1), Edges.NOT);
                for (int c = 0; c < n; c++) {
                    int parent = x.of(c, 1);
                    boolean left = parent != Edges.NOT && x.of(parent, 2) == c;
                    LeaningTrees y = numbered(n, k);
                    Edges.due("turn(" + c + ") is NOT", y.turn(c) == Edges.NOT ? 1 : 0, left ? 0 : 1);
                    Edges.due("which() behind NOT", y.which() == k ? 1 : 0, left ? 0 : 1);
                }
            }
        }
    }

    @Edges.Says(promise = 10, words = "A TURN BACK: NUMBER then.")
    private static void backIsJustTheOppositeOfUp() {
        for (int n = 2; n <= 7; n++) {
            for (int k = 0; k < Edges.MANY[n]; k++) {
                for (int c = 0; c < n; c++) {
                    LeaningTrees x = numbered(n, k);
                    int turned = x.turn(c);
                    if (turned >= 0) {
                        Edges.due("which()", x.which(), turned);
                        Edges.due("back(" + c + ")", x.back(c), k);
                        Edges.due("turn(" + c + ")", x.turn(c), turned);
                    }
                }
            }
        }
    }

    @Edges.Says(promise = 10, words = "NONE: c")
    private static void noSuchNodeToTurnBack() {
        for (int n = 1; n <= 7; n++) {
            int nodes = n;
            Edges.takes("back of " + n, () -> made(nodes), LeaningTrees::back, 0, n - 1, Edges.NONE);
        }
    }

    @Edges.Says(promise = 10, words = "NOT: it has no right child.")
    private static void whatHasNothingAtItsRightDoesNotTurnBack() {
        for (int n = 1; n <= 7; n++) {
            for (int k = 0; k < Edges.MANY[n]; k++) {
                for (int c = 0; c < n; c++) {
                    LeaningTrees x = numbered(n, k);
                    boolean none = x.of(c, 3) == Edges.NOT;
                    Edges.due("back(" + c + ") is NOT", x.back(c) == Edges.NOT ? 1 : 0, none ? 1 : 0);
                    Edges.due("which() behind NOT", x.which() == k ? 1 : 0, none ? 1 : 0);
                }
            }
        }
    }

    @Edges.Says(promise = 11, words = "At how many NODES a TURN UP can be (what 0), BACK (1), at which (2, 3; bits).")
    private static void mayTurnTellsJustWhatCan() {
        for (int n = 1; n <= 7; n++) {
            for (int k = 0; k < Edges.MANY[n]; k++) {
                LeaningTrees x = numbered(n, k);
                int ups = 0;
                int backs = 0;
                for (int c = 0; c < n; c++) {
                    ups |= numbered(n, k).turn(c) >= 0 ? 1 << c : 0;
                    backs |= numbered(n, k).back(c) >= 0 ? 1 << c : 0;
                }
                Edges.due("mayTurn(2)", x.mayTurn(2), ups);
                Edges.due("mayTurn(3)", x.mayTurn(3), backs);
                Edges.due("mayTurn(0)", x.mayTurn(0), Integer.bitCount(ups));
                Edges.due("mayTurn(1)", x.mayTurn(1), Integer.bitCount(backs));
                Edges.due("each NODE but the root is a left or a right child", x.mayTurn(0) + x.mayTurn(1), n - 1);
            }
        }
    }

    @Edges.Says(promise = 11, words = "NONE.")
    private static void mayTurnHasFourQuestions() {
        for (int n = 1; n <= 7; n++) {
            int nodes = n;
            Edges.takes("mayTurn of " + n, () -> made(nodes), LeaningTrees::mayTurn, 0, 3, Edges.NONE);
        }
    }

    // ---- 12 mirror

    @Edges.Says(promise = 12, words = "THE TREE is MIRRORED: NUMBER then.")
    private static void mirrorOfTheLeastIsTheGreatest() {
        for (int n = 1; n <= 7; n++) {
            LeaningTrees x = made(n);
            Edges.due("mirror() of the least", x.mirror(), Edges.MANY[n] - 1);
            Edges.due("digits()", x.digits(), Edges.GREATEST[n]);
            Edges.due("mirror() of the greatest", x.mirror(), 0);
            Edges.due("digits()", x.digits(), 0);
            Edges.due("count(1)", x.count(1), n == 1 ? 0 : 2);
        }
    }

    @Edges.Says(words = "MIRRORED: left and right are exchanged at each NODE.")
    private static void mirrorExchangesLeftAndRight() {
        for (int n = 1; n <= 7; n++) {
            for (int k = 0; k < Edges.MANY[n]; k++) {
                LeaningTrees x = numbered(n, k);
                LeaningTrees y = numbered(n, k);
                Edges.due("mirror()", y.mirror(), y.which());
                for (int i = 0; i < n; i++) {
                    Edges.due("NODES at the right", y.of(n - 1 - i, 0), x.of(i, 4));
                    Edges.due("NODES at the left", y.of(n - 1 - i, 4), x.of(i, 0));
                    Edges.due("NODES above", y.of(n - 1 - i, 5), x.of(i, 5));
                }
                Edges.due("mirror() again", y.mirror(), k);
            }
        }
    }

    // ---- 13 off, and STEPS

    @Edges.Says(promise = 13, words = "STATE: there is none.")
    private static void offWithoutSteps() {
        LeaningTrees x = new LeaningTrees();
        Edges.due("off() of a new object", x.off(), Edges.STATE);
        x.turn(0);
        Edges.due("off()", x.off(), 0);
        Edges.due("off() behind the last", x.off(), Edges.STATE);
        Edges.due("digits()", x.digits(), 0);
        Edges.due("count(1)", x.count(1), 0);
    }

    @Edges.Says(promise = 13, words = "The latest STEP is taken off: how many can still be.")
    private static void whatOffTakesIsNoStepItself() {
        LeaningTrees x = new LeaningTrees();
        x.number(1);
        x.number(2);
        Edges.due("off()", x.off(), 1);
        Edges.due("which()", x.which(), 1);
        x.number(3);
        Edges.due("count(1)", x.count(1), 2);
        Edges.due("off()", x.off(), 1);
        Edges.due("which(), the STEP taken off stays off", x.which(), 1);
        Edges.due("off()", x.off(), 0);
        Edges.due("which()", x.which(), 0);
    }

    @Edges.Says(words = "10 at most are kept (then the eldest is none any more)")
    private static void theEldestGoesWhenAnEleventhComes() {
        for (int steps = 9; steps <= 13; steps++) {
            LeaningTrees x = made(4);
            for (int k = 1; k <= steps; k++) {
                x.number(k);
                Edges.due("count(1) behind " + k, x.count(1), Math.min(10, k));
            }
            int eldest = Math.max(0, steps - 10);
            for (int k = steps - 1; k >= eldest; k--) {
                Edges.due("off()", x.off(), k - eldest);
                Edges.due("which()", x.which(), k);
            }
            Edges.due("off() behind all of " + steps, x.off(), Edges.STATE);
            Edges.due("which()", x.which(), eldest);
        }
    }

    @Edges.Says(words = "10 at most are kept (then the eldest is none any more)")
    private static void stepsComeAndGoPastTen() {
        LeaningTrees x = made(4);
        for (int k = 1; k <= 13; k++) {
            x.number(k);
        }
        Edges.due("off()", x.off(), 9);
        Edges.due("off()", x.off(), 8);
        x.number(0);
        x.number(5);
        Edges.due("count(1)", x.count(1), 10);
        x.number(6);
        Edges.due("count(1)", x.count(1), 10);
        int[] earlier = {5, 0, 11, 10, 9, 8, 7, 6, 5, 4};
        for (int i = 0; i < 10; i++) {
            Edges.due("off()", x.off(), 9 - i);
            Edges.due("which()", x.which(), earlier[i]);
        }
        Edges.due("off()", x.off(), Edges.STATE);
    }

    @Edges.Says(words = "what turn(), back(), mirror(), over(), under(), lay(), number(), row() and play() (each TURN of it one) made otherwise can be taken off")
    private static void allNineMakeSteps() {
        LeaningTrees x = new LeaningTrees();
        x.nodes(2);
        x.keep(0);
        x.turn(0);
        Edges.due("count(1) behind turn()", x.count(1), 1);
        x.back(0);
        Edges.due("count(1) behind back()", x.count(1), 2);
        x.mirror();
        Edges.due("count(1) behind mirror()", x.count(1), 3);
        x.over(0);
        Edges.due("count(1) behind over()", x.count(1), 4);
        x.under(0);
        Edges.due("count(1) behind under()", x.count(1), 5);
        x.lay(0);
        Edges.due("count(1) behind lay()", x.count(1), 6);
        x.number(1);
        Edges.due("count(1) behind number()", x.count(1), 7);
        x.row(0);
        Edges.due("count(1) behind row()", x.count(1), 8);
        Edges.putAll(x, 0, 0, -1);
        x.play(0);
        Edges.due("count(1) behind play() of two TURNS", x.count(1), 10);
        int[] nodes = {2, 2, 2, 2, 6, 4, 2, 2, 2, 2};
        int[] digits = {10, 0, 10, 0, 3200, 10, 10, 0, 10, 0};
        for (int i = 0; i < 10; i++) {
            Edges.due("off()", x.off(), 9 - i);
            Edges.due("count(0) behind off() " + i, x.count(0), nodes[i]);
            Edges.due("digits() behind off() " + i, x.digits(), digits[i]);
        }
        Edges.due("off()", x.off(), Edges.STATE);
    }

    @Edges.Says(words = "telling what is so already is none")
    private static void tellingWhatIsSoIsNoStep() {
        LeaningTrees x = Edges.tree(3, 10);
        x.keep(0);
        x.list(0, 0);
        Edges.due("row()", x.row(10), 1);
        Edges.due("number()", x.number(1), 1);
        Edges.due("mirror() of one that is its own", x.mirror(), 1);
        Edges.due("lay() of the same", x.lay(0), 3);
        Edges.due("play() of no TURNS", x.play(0), 0);
        Edges.due("count(1)", x.count(1), 1);
        Edges.due("off()", x.off(), 0);
        Edges.due("digits()", x.digits(), 0);
    }

    @Edges.Says(words = "What is answered so changes nothing")
    private static void whatIsRefusedIsNoStep() {
        LeaningTrees x = Edges.tree(4, 3210);
        x.turn(0);
        x.turn(4);
        x.back(3);
        x.back(4);
        x.row(1100);
        x.number(14);
        x.lay(0);
        x.lay(4);
        x.over(0);
        x.under(0);
        x.play(0);
        x.play(3);
        Edges.due("count(1)", x.count(1), 1);
        Edges.due("digits()", x.digits(), 3210);
        Edges.due("off()", x.off(), 0);
        Edges.due("digits()", x.digits(), 0);
    }

    @Edges.Says(words = "STEPS: what turn(), back(), mirror(), over(), under(), lay(), number(), row() and play()")
    private static void keepLoseImageAndListsAreNoSteps() {
        LeaningTrees x = new LeaningTrees();
        x.number(3);
        x.keep(0);
        x.keep(1);
        x.lose(1);
        x.image();
        x.list(0, 3);
        x.put(0, 0, 1);
        x.number(0);
        x.film(1, 0);
        x.feed(40);
        x.wipe();
        Edges.due("count(1)", x.count(1), 2);
        x.off();
        Edges.due("which()", x.which(), 3);
        Edges.due("count(3), off() leaves SHELVES", x.count(3), 1);
        Edges.due("count(4), off() leaves LISTS", x.count(4), 2);
    }
}
