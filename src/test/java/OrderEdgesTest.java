/** The sentences of promises 14 to 25, and of the terms about order, ways and classes, that name a boundary. */
public final class OrderEdgesTest {
    private OrderEdgesTest() {
    }

    public static void main(String[] args) {
        Edges.run(OrderEdgesTest.class);
    }

    /** THE TREE with a number, and another one on shelf 0. */
    private static LeaningTrees numbered(int n, int k, int shelfNumber) {
        LeaningTrees x = new LeaningTrees();
        x.nodes(n);
        x.number(shelfNumber);
        x.keep(0);
        x.number(k);
        return x;
    }

    private static LeaningTrees leastAndGreatest(int n) {
        return numbered(n, 0, Edges.MANY[n] - 1);
    }

    private static LeaningTrees greatestAndLeast(int n) {
        return numbered(n, Edges.MANY[n] - 1, 0);
    }

    private static LeaningTrees likeOnes(int n) {
        return numbered(n, Edges.MANY[n] / 2, Edges.MANY[n] / 2);
    }

    private interface CallOfTwo {
        long on(LeaningTrees x, int a, int b);
    }

    /** The calls about a shelf's tree and a question: NONE of either, also where EMPTY or OTHER is so too. */
    private static void noneOfShelfAndQuestion(String name, CallOfTwo call) {
        Edges.takes(name + "(.., 0)", Edges::shelved, (x, shelf) -> call.on(x, shelf, 0), 0, 3, Edges.NONE);
        Edges.takes(name + "(.., 1)", Edges::shelved, (x, shelf) -> call.on(x, shelf, 1), 0, 3, Edges.NONE);
        for (int held = 0; held <= 3; held++) {
            int shelf = held;
            Edges.takes(name + "(" + held + ", ..)", Edges::shelved, (x, what) -> call.on(x, shelf, what), 0, 1, Edges.NONE);
        }
        Edges.due(name + "(4, 2)", call.on(Edges.shelved(), 4, 2), Edges.NONE);
        Edges.due(name + "(-1, -1)", call.on(Edges.shelved(), -1, -1), Edges.NONE);
    }

    /** Shelf 3 holds nothing, at first and where it has lost what it held. */
    private static void emptyOfShelf(String name, Edges.Call call, long refused) {
        Edges.due(name + " of a shelf that never held one", call.on(Edges.shelved()), refused);
        LeaningTrees x = Edges.shelved();
        x.keep(3);
        Edges.due(name + " of a shelf that holds one is EMPTY", call.on(x) == refused ? 1 : 0, 0);
        x.lose(3);
        Edges.due(name + " of a shelf that has lost it", call.on(x), refused);
    }

    /** Shelf 0 has as many nodes, 1 more, 2 fewer. */
    private static void otherOfShelf(String name, Edges.CallOfOne call, long refused) {
        Edges.due(name + " of more nodes", call.on(Edges.shelved(), 1), refused);
        Edges.due(name + " of fewer nodes", call.on(Edges.shelved(), 2), refused);
        Edges.due(name + " of as many is OTHER", call.on(Edges.shelved(), 0) == refused ? 1 : 0, 0);
        for (int n = 1; n <= 7; n++) {
            for (int held = 1; held <= 7; held++) {
                LeaningTrees x = new LeaningTrees();
                x.nodes(held);
                x.keep(0);
                x.nodes(n);
                Edges.due(name + " of " + held + " by " + n + " is OTHER", call.on(x, 0) == refused ? 1 : 0, n == held ? 0 : 1);
            }
        }
    }

    // ---- 14 below

    @Edges.Says(promise = 14, words = "Whether THE TREE is BELOW that of a SHELF (what 0), that of the SHELF BELOW it (1): 1, 0.")
    private static void theLeastIsBelowAndTheGreatestAboveAll() {
        for (int n = 1; n <= 7; n++) {
            int last = Edges.MANY[n] - 1;
            for (int k = 0; k <= last; k++) {
                Edges.due("the least BELOW " + k, numbered(n, 0, k).below(0, 0), 1);
                Edges.due("the greatest BELOW " + k, numbered(n, last, k).below(0, 0), k == last ? 1 : 0);
                Edges.due(k + " BELOW the least", numbered(n, 0, k).below(0, 1), k == 0 ? 1 : 0);
                Edges.due(k + " BELOW the greatest", numbered(n, last, k).below(0, 1), 1);
            }
        }
    }

    @Edges.Says(words = "(it itself is BELOW itself)")
    private static void eachIsBelowItself() {
        for (int n = 1; n <= 7; n++) {
            for (int k = 0; k < Edges.MANY[n]; k++) {
                LeaningTrees x = numbered(n, k, k);
                Edges.due("below(0, 0)", x.below(0, 0), 1);
                Edges.due("below(0, 1)", x.below(0, 1), 1);
            }
        }
    }

    @Edges.Says(words = "if each b of it is no more than that of the other")
    private static void oneNumberMoreIsEnoughNotToBeBelow() {
        for (int n = 2; n <= 7; n++) {
            for (int k = 0; k < Edges.MANY[n]; k++) {
                LeaningTrees x = numbered(n, k, 0);
                for (int c = 0; c < n; c++) {
                    x.keep(0);
                    if (x.turn(c) >= 0) {
                        Edges.due("turned up is BELOW what it was", x.below(0, 0), 0);
                        Edges.due("what it was is BELOW turned up", x.below(0, 1), 1);
                        x.off();
                    }
                }
            }
        }
        LeaningTrees x = Edges.pair(3, 10, 200);
        Edges.due("neither: below(0, 0)", x.below(0, 0), 0);
        Edges.due("neither: below(0, 1)", x.below(0, 1), 0);
    }

    @Edges.Says(promise = 14, words = "NONE; EMPTY; OTHER.")
    private static void belowNone() {
        noneOfShelfAndQuestion("below", LeaningTrees::below);
    }

    @Edges.Says(promise = 14, words = "EMPTY")
    private static void belowEmpty() {
        emptyOfShelf("below(3, 0)", x -> x.below(3, 0), Edges.EMPTY);
        emptyOfShelf("below(3, 1)", x -> x.below(3, 1), Edges.EMPTY);
    }

    @Edges.Says(promise = 14, words = "OTHER")
    private static void belowOther() {
        otherOfShelf("below(.., 0)", (x, shelf) -> x.below(shelf, 0), Edges.OTHER);
        otherOfShelf("below(.., 1)", (x, shelf) -> x.below(shelf, 1), Edges.OTHER);
    }

    // ---- 15 meet

    @Edges.Says(promise = 15, words = "NUMBER of MEET (what 0), of JOIN (1) of THE TREE and that of a SHELF.")
    private static void meetAndJoinWithTheLeastTheGreatestAndItself() {
        for (int n = 1; n <= 7; n++) {
            int last = Edges.MANY[n] - 1;
            for (int k = 0; k <= last; k++) {
                Edges.due("MEET with the least", numbered(n, k, 0).meet(0, 0), 0);
                Edges.due("JOIN with the least", numbered(n, k, 0).meet(0, 1), k);
                Edges.due("MEET with the greatest", numbered(n, k, last).meet(0, 0), k);
                Edges.due("JOIN with the greatest", numbered(n, k, last).meet(0, 1), last);
                Edges.due("MEET with itself", numbered(n, k, k).meet(0, 0), k);
                Edges.due("JOIN with itself", numbered(n, k, k).meet(0, 1), k);
            }
        }
    }

    @Edges.Says(words = "MEET of two: the greatest TREE BELOW both (of all that are, the one above them all); JOIN: the least TREE that both are BELOW.")
    private static void meetAndJoinOfTwoThatAreNotInOrder() {
        LeaningTrees x = Edges.pair(3, 10, 200);
        Edges.due("meet(0, 0)", x.meet(0, 0), 0);
        Edges.due("meet(0, 1)", x.meet(0, 1), 4);
        x = Edges.pair(7, 10, 6000000);
        Edges.due("MEET of the last and the first node's", x.meet(0, 0), 0);
        x.number(x.meet(0, 1));
        Edges.due("their JOIN", x.digits(), 6000010);
        x = Edges.pair(7, 5000000, 10);
        x.number(x.meet(0, 1));
        Edges.due("JOIN where one ends in the other", x.digits(), 6000010);
        x = Edges.pair(7, 1010100, 101010);
        Edges.due("MEET", x.meet(0, 0), 0);
        Edges.due("JOIN through all nodes", x.meet(0, 1), 428);
    }

    @Edges.Says(promise = 15, words = "NONE; EMPTY; OTHER.")
    private static void meetNone() {
        noneOfShelfAndQuestion("meet", LeaningTrees::meet);
    }

    @Edges.Says(promise = 15, words = "EMPTY")
    private static void meetEmpty() {
        emptyOfShelf("meet(3, 0)", x -> x.meet(3, 0), Edges.EMPTY);
        emptyOfShelf("meet(3, 1)", x -> x.meet(3, 1), Edges.EMPTY);
    }

    @Edges.Says(promise = 15, words = "OTHER")
    private static void meetOther() {
        otherOfShelf("meet(.., 0)", (x, shelf) -> x.meet(shelf, 0), Edges.OTHER);
        otherOfShelf("meet(.., 1)", (x, shelf) -> x.meet(shelf, 1), Edges.OTHER);
    }

    // ---- 16 meetAll

    @Edges.Says(words = "Without SHELVES of as many NODES meetAll() tells THE TREE itself.")
    private static void meetAllWithoutShelves() {
        for (int n = 1; n <= 7; n++) {
            LeaningTrees x = new LeaningTrees();
            x.nodes(n);
            x.number(Edges.MANY[n] / 2);
            Edges.due("meetAll(0) of empty shelves", x.meetAll(0), Edges.MANY[n] / 2);
            Edges.due("meetAll(1) of empty shelves", x.meetAll(1), Edges.MANY[n] / 2);
            for (int shelf = 0; shelf <= 3; shelf++) {
                x.nodes(1 + (n + shelf) % 7);
                x.keep(shelf);
            }
            x.nodes(n);
            x.number(Edges.MANY[n] / 2);
            Edges.due("meetAll(0) of shelves of other sizes", x.meetAll(0), Edges.MANY[n] / 2);
            Edges.due("meetAll(1) of shelves of other sizes", x.meetAll(1), Edges.MANY[n] / 2);
        }
    }

    @Edges.Says(promise = 16, words = "NUMBER of MEET (0), JOIN (1) of THE TREE and those of all SHELVES that hold one of as many NODES.")
    private static void meetAllOfEachShelf() {
        for (int shelf = 0; shelf <= 3; shelf++) {
            LeaningTrees x = Edges.tree(3, 200);
            x.keep(shelf);
            x.row(10);
            Edges.due("meetAll(0) with shelf " + shelf, x.meetAll(0), 0);
            Edges.due("meetAll(1) with shelf " + shelf, x.meetAll(1), 4);
            x.lose(shelf);
            Edges.due("meetAll(0) without it", x.meetAll(0), 1);
            Edges.due("meetAll(1) without it", x.meetAll(1), 1);
        }
        LeaningTrees x = new LeaningTrees();
        x.nodes(7);
        int[] rows = {1000000, 100000, 10000, 1000};
        for (int shelf = 0; shelf <= 3; shelf++) {
            x.row(rows[shelf]);
            x.keep(shelf);
        }
        x.row(100);
        Edges.due("meetAll(0) of all four", x.meetAll(0), 0);
        x.number(x.meetAll(1));
        Edges.due("JOIN of all four", x.digits(), 5432100);
    }

    @Edges.Says(promise = 16, words = "NONE.")
    private static void meetAllHasTwoQuestions() {
        Edges.takes("meetAll", LeaningTrees::new, LeaningTrees::meetAll, 0, 1, Edges.NONE);
        Edges.takes("meetAll with shelves", Edges::shelved, LeaningTrees::meetAll, 0, 1, Edges.NONE);
    }

    // ---- 17 between

    @Edges.Says(promise = 17, words = "The k-th NUMBER, rising, from 0, of those BETWEEN THE TREE and that of a SHELF")
    private static void allAreBetweenTheLeastAndTheGreatest() {
        for (int n = 1; n <= 7; n++) {
            LeaningTrees x = leastAndGreatest(n);
            Edges.due("between(0, -1) of " + n, x.between(0, -1), Edges.MANY[n]);
            for (int k = 0; k < Edges.MANY[n]; k++) {
                Edges.due("between(0, " + k + ")", x.between(0, k), k);
            }
            Edges.due("between(0, many)", x.between(0, Edges.MANY[n]), Edges.NONE);
        }
    }

    @Edges.Says(words = "(these, too)")
    private static void betweenHoldsItsEnds() {
        LeaningTrees x = Edges.pair(4, 1000, 3000);
        Edges.due("between(0, -1)", x.between(0, -1), 3);
        Edges.due("between(0, 0), THE TREE", x.between(0, 0), 5);
        Edges.due("between(0, 1)", x.between(0, 1), 7);
        Edges.due("between(0, 2), the shelf's", x.between(0, 2), 9);
        Edges.due("between(0, 3)", x.between(0, 3), Edges.NONE);
    }

    @Edges.Says(words = "BETWEEN like ones there is one TREE")
    private static void betweenLikeOnes() {
        for (int n = 1; n <= 7; n++) {
            LeaningTrees x = likeOnes(n);
            Edges.due("between(0, -1)", x.between(0, -1), 1);
            Edges.due("between(0, 0)", x.between(0, 0), Edges.MANY[n] / 2);
            Edges.due("between(0, 1)", x.between(0, 1), Edges.NONE);
        }
    }

    @Edges.Says(promise = 17, words = "k -1: how many (0, if it is not BELOW that)")
    private static void betweenWhatIsNotBelow() {
        for (int n = 2; n <= 7; n++) {
            LeaningTrees x = greatestAndLeast(n);
            Edges.due("between(0, -1), the shelf's is BELOW", x.between(0, -1), 0);
            Edges.due("between(0, 0)", x.between(0, 0), Edges.NONE);
        }
        LeaningTrees x = Edges.pair(3, 10, 200);
        Edges.due("between(0, -1), neither is BELOW", x.between(0, -1), 0);
        Edges.due("between(0, 0)", x.between(0, 0), Edges.NONE);
        x = Edges.pair(3, 200, 10);
        Edges.due("between(0, -1), neither is BELOW", x.between(0, -1), 0);
        Edges.due("between(0, 0)", x.between(0, 0), Edges.NONE);
    }

    @Edges.Says(promise = 17, words = "NONE: shelf, k below -1; EMPTY; OTHER")
    private static void betweenNoneOfShelfAndOfWhatIsBelowMinusOne() {
        for (int k = -1; k <= 0; k++) {
            int asked = k;
            Edges.takes("between(.., " + k + ")", Edges::shelved, (x, shelf) -> x.between(shelf, asked), 0, 3, Edges.NONE);
        }
        for (int shelf = -1; shelf <= 4; shelf++) {
            Edges.due("between(" + shelf + ", -2)", Edges.shelved().between(shelf, -2), Edges.NONE);
            Edges.due("between of the least int", Edges.shelved().between(shelf, Integer.MIN_VALUE), Edges.NONE);
        }
        Edges.due("between(4, 9)", Edges.shelved().between(4, 9), Edges.NONE);
    }

    @Edges.Says(promise = 17, words = "EMPTY")
    private static void betweenEmpty() {
        emptyOfShelf("between(3, -1)", x -> x.between(3, -1), Edges.EMPTY);
        emptyOfShelf("between(3, 0)", x -> x.between(3, 0), Edges.EMPTY);
        Edges.due("between(3, 500), EMPTY is ahead of no such one", Edges.shelved().between(3, 500), Edges.EMPTY);
        Edges.due("between of the greatest int", Edges.shelved().between(3, Integer.MAX_VALUE), Edges.EMPTY);
    }

    @Edges.Says(promise = 17, words = "OTHER")
    private static void betweenOther() {
        otherOfShelf("between(.., -1)", (x, shelf) -> x.between(shelf, -1), Edges.OTHER);
        otherOfShelf("between(.., 0)", (x, shelf) -> x.between(shelf, 0), Edges.OTHER);
        Edges.due("between(1, 500), OTHER is ahead of no such one", Edges.shelved().between(1, 500), Edges.OTHER);
        Edges.due("between of the greatest int", Edges.shelved().between(2, Integer.MAX_VALUE), Edges.OTHER);
    }

    @Edges.Says(promise = 17, words = "NONE: no such one")
    private static void betweenNoSuchOne() {
        Edges.takes("between(0, ..) of three", () -> Edges.pair(4, 1000, 3000), (x, k) -> x.between(0, k), -1, 2, Edges.NONE);
        Edges.takes("between(0, ..) of all", () -> leastAndGreatest(7), (x, k) -> x.between(0, k), -1, 428, Edges.NONE);
    }

    // ---- 18 way

    @Edges.Says(promise = 18, words = "how many TURNS (what 0), the first one (1; NOT: there is none)")
    private static void theWayToItself() {
        for (int n = 1; n <= 7; n++) {
            for (int k = 0; k < Edges.MANY[n]; k++) {
                LeaningTrees x = numbered(n, k, k);
                Edges.due("way(0, 0)", x.way(0, 0), 0);
                Edges.due("way(0, 1)", x.way(0, 1), Edges.NOT);
            }
        }
    }

    @Edges.Says(promise = 18, words = "c, or 100 plus c")
    private static void theWayOfOneTurnAtEachNode() {
        for (int n = 2; n <= 7; n++) {
            for (int c = 0; c <= n - 2; c++) {
                LeaningTrees x = new LeaningTrees();
                x.nodes(n);
                x.keep(0);
                x.turn(c);
                Edges.due("way(0, 0)", x.way(0, 0), 1);
                Edges.due("way(0, 1), BACK at " + c, x.way(0, 1), 100 + c);
                x.keep(1);
                x.lay(0);
                Edges.due("way(1, 0)", x.way(1, 0), 1);
                Edges.due("way(1, 1), UP at " + c, x.way(1, 1), c);
            }
        }
    }

    @Edges.Says(promise = 18, words = "of those with which such a WAY begins, UP at the least NODE, else BACK at the least")
    private static void ofTwoFirstTurnsTheLeastNode() {
        LeaningTrees x = Edges.pair(4, 0, 1010);
        Edges.due("way(0, 0), two UP in either order", x.way(0, 0), 2);
        Edges.due("way(0, 1)", x.way(0, 1), 0);
        x = Edges.pair(4, 1010, 0);
        Edges.due("way(0, 0), two BACK in either order", x.way(0, 0), 2);
        Edges.due("way(0, 1)", x.way(0, 1), 100);
    }

    @Edges.Says(words = "WAY begins with UP if a shortest one does.")
    private static void upIsAheadOfBackAtALesserNode() {
        LeaningTrees x = Edges.pair(4, 1000, 10);
        Edges.due("way(0, 0), BACK at 0 and UP at 2 in either order", x.way(0, 0), 2);
        Edges.due("way(0, 1)", x.way(0, 1), 2);
        x = Edges.pair(7, 1000000, 10);
        Edges.due("way(0, 0)", x.way(0, 0), 2);
        Edges.due("way(0, 1)", x.way(0, 1), 5);
    }

    @Edges.Says(words = "the fewest TURNS (UP or BACK)")
    private static void theLongestWays() {
        int[] longest = {0, 0, 1, 2, 4, 5, 7, 9};
        for (int n = 1; n <= 7; n++) {
            int most = 0;
            for (int k = 0; k < Edges.MANY[n]; k++) {
                LeaningTrees x = numbered(n, k, 0);
                int far = x.far(0);
                most = Math.max(most, far);
                int least = x.far(2);
                x.number(least);
                x.keep(0);
                x.number(k);
                Edges.due("way to the farthest", x.way(0, 0), far);
            }
            Edges.due("the longest of " + n, most, longest[n]);
        }
    }

    @Edges.Says(promise = 18, words = "NONE; EMPTY; OTHER.")
    private static void wayNone() {
        noneOfShelfAndQuestion("way", LeaningTrees::way);
    }

    @Edges.Says(promise = 18, words = "EMPTY")
    private static void wayEmpty() {
        emptyOfShelf("way(3, 0)", x -> x.way(3, 0), Edges.EMPTY);
        emptyOfShelf("way(3, 1)", x -> x.way(3, 1), Edges.EMPTY);
    }

    @Edges.Says(promise = 18, words = "OTHER")
    private static void wayOther() {
        otherOfShelf("way(.., 0)", (x, shelf) -> x.way(shelf, 0), Edges.OTHER);
        otherOfShelf("way(.., 1)", (x, shelf) -> x.way(shelf, 1), Edges.OTHER);
    }

    // ---- 19 chain

    @Edges.Says(promise = 19, words = "CHAIN: the fewest (what 0), the most (1)")
    private static void chainsFromTheLeastToTheGreatest() {
        for (int n = 1; n <= 7; n++) {
            LeaningTrees x = leastAndGreatest(n);
            Edges.due("chain(0, 0) of " + n, x.chain(0, 0), n - 1);
            Edges.due("chain(0, 1) of " + n, x.chain(0, 1), n * (n - 1) / 2);
        }
    }

    @Edges.Says(words = "CHAINS from THE TREE to itself have 0 TURNS")
    private static void chainsToItself() {
        for (int n = 1; n <= 7; n++) {
            for (int k = 0; k < Edges.MANY[n]; k++) {
                LeaningTrees x = numbered(n, k, k);
                Edges.due("chain(0, 0)", x.chain(0, 0), 0);
                Edges.due("chain(0, 1)", x.chain(0, 1), 0);
            }
        }
    }

    @Edges.Says(promise = 19, words = "NOT: THE TREE is not BELOW that.")
    private static void noChainToWhatItIsNotBelow() {
        for (int n = 2; n <= 7; n++) {
            LeaningTrees x = greatestAndLeast(n);
            Edges.due("chain(0, 0)", x.chain(0, 0), Edges.NOT);
            Edges.due("chain(0, 1)", x.chain(0, 1), Edges.NOT);
        }
        LeaningTrees x = Edges.pair(3, 10, 200);
        Edges.due("chain(0, 0), neither is BELOW", x.chain(0, 0), Edges.NOT);
        Edges.due("chain(0, 1), neither is BELOW", x.chain(0, 1), Edges.NOT);
        x = Edges.pair(3, 200, 10);
        Edges.due("chain(0, 0), neither is BELOW", x.chain(0, 0), Edges.NOT);
        Edges.due("chain(0, 1), neither is BELOW", x.chain(0, 1), Edges.NOT);
    }

    @Edges.Says(promise = 19, words = "NONE; EMPTY; OTHER.")
    private static void chainNone() {
        noneOfShelfAndQuestion("chain", LeaningTrees::chain);
        Edges.takes("chain(0, ..) to itself", () -> likeOnes(4), (x, what) -> x.chain(0, what), 0, 1, Edges.NONE);
    }

    /** The document leaves room here (NOTES.md): the refusals of shelf and question come ahead of NOT, as in mark(). */
    @Edges.Says(promise = 19, words = "NOT: THE TREE is not BELOW that. NONE; EMPTY; OTHER.")
    private static void chainNoneIsAheadOfNot() {
        Edges.takes("chain(0, ..)", () -> Edges.pair(3, 10, 200), (x, what) -> x.chain(0, what), 0, 1, Edges.NONE);
    }

    @Edges.Says(promise = 19, words = "EMPTY")
    private static void chainEmpty() {
        emptyOfShelf("chain(3, 0)", x -> x.chain(3, 0), Edges.EMPTY);
        emptyOfShelf("chain(3, 1)", x -> x.chain(3, 1), Edges.EMPTY);
    }

    @Edges.Says(promise = 19, words = "OTHER")
    private static void chainOther() {
        otherOfShelf("chain(.., 0)", (x, shelf) -> x.chain(shelf, 0), Edges.OTHER);
        otherOfShelf("chain(.., 1)", (x, shelf) -> x.chain(shelf, 1), Edges.OTHER);
    }

    // ---- 20 mark

    @Edges.Says(words = "MARK of two, the first BELOW the second: 1, if they are the same")
    private static void markOfTheSame() {
        for (int n = 1; n <= 7; n++) {
            for (int k = 0; k < Edges.MANY[n]; k++) {
                Edges.due("mark(0)", numbered(n, k, k).mark(0), 1);
            }
        }
    }

    @Edges.Says(words = "else 0 less MARKS, together, of the first and each TREE BETWEEN them but the second")
    private static void marksOfAllBetweenAreNoneTogether() {
        for (int n = 2; n <= 5; n++) {
            for (int k = 0; k < Edges.MANY[n]; k++) {
                LeaningTrees x = numbered(n, k, Edges.MANY[n] - 1);
                int many = x.between(0, -1);
                int sum = 0;
                for (int i = 0; i < many; i++) {
                    int mark = numbered(n, k, x.between(0, i)).mark(0);
                    Edges.due("MARK is -1, 0 or 1", Math.abs(mark) <= 1 ? 1 : 0, 1);
                    sum += mark;
                }
                Edges.due("MARKS of all from " + k + " of " + n, sum, many == 1 ? 1 : 0);
            }
        }
        Edges.due("a chain of two", Edges.pair(3, 100, 200).mark(0), -1);
        Edges.due("a chain of three", Edges.pair(3, 100, 210).mark(0), 0);
        Edges.due("all of seven", leastAndGreatest(7).mark(0), 1);
        Edges.due("all of six", leastAndGreatest(6).mark(0), -1);
        Edges.due("all of two", leastAndGreatest(2).mark(0), -1);
        Edges.due("all of one", leastAndGreatest(1).mark(0), 1);
    }

    @Edges.Says(words = "MARKS in the sum are those of the first and each of these TREES.")
    private static void marksAskedOneBehindTheOther() {
        for (int goal : new int[] {0, 3, 20, 40, 41}) {
            LeaningTrees x = leastAndGreatest(5);
            Edges.due("mark(0) of all", x.mark(0), 1);
            x.number(goal);
            x.keep(0);
            for (int k = 0; k < Edges.MANY[5]; k++) {
                x.number(k);
                Edges.due("mark(0) of " + k + " and " + goal, x.mark(0), numbered(5, k, goal).mark(0));
            }
        }
    }

    @Edges.Says(promise = 20, words = "-100 less NONE, EMPTY, OTHER, NOT (it is not BELOW that), so -99, -94, -93, -95.")
    private static void markNone() {
        Edges.takes("mark", Edges::shelved, LeaningTrees::mark, 0, 3, -99);
    }

    @Edges.Says(promise = 20, words = "EMPTY")
    private static void markEmpty() {
        emptyOfShelf("mark(3)", x -> x.mark(3), -94);
    }

    @Edges.Says(promise = 20, words = "OTHER")
    private static void markOther() {
        otherOfShelf("mark", LeaningTrees::mark, -93);
    }

    @Edges.Says(promise = 20, words = "NOT (it is not BELOW that)")
    private static void markOfWhatItIsNotBelow() {
        for (int n = 2; n <= 7; n++) {
            Edges.due("mark(0), the shelf's is BELOW", greatestAndLeast(n).mark(0), -95);
        }
        Edges.due("mark(0), neither is BELOW", Edges.pair(3, 10, 200).mark(0), -95);
        Edges.due("mark(0), neither is BELOW", Edges.pair(3, 200, 10).mark(0), -95);
    }

    // ---- 21 pairs

    @Edges.Says(promise = 21, words = "Of all TREES of n NODES how many pairs are in order (the first BELOW the second, each with itself, too).")
    private static void pairsFromOneToSix() {
        int[] pairs = {0, 1, 3, 13, 68, 399, 2530};
        for (int own = 1; own <= 7; own++) {
            LeaningTrees x = Edges.tree(own, 0);
            for (int n = 1; n <= 6; n++) {
                Edges.due("pairs(" + n + ")", x.pairs(n), pairs[n]);
            }
        }
    }

    @Edges.Says(promise = 21, words = "BAD: n (1 .. 6).")
    private static void pairsOfNoneAndOfSevenAreBad() {
        Edges.takes("pairs", LeaningTrees::new, LeaningTrees::pairs, 1, 6, Edges.BAD);
        Edges.takes("pairs of an object of seven", () -> Edges.tree(7, 0), LeaningTrees::pairs, 1, 6, Edges.BAD);
    }

    // ---- 22 far

    @Edges.Says(words = "Of one NODE far() is 0, one TREE, and the CANOPY is 0.")
    private static void farOfOneNode() {
        LeaningTrees x = Edges.tree(1, 0);
        Edges.due("far(0)", x.far(0), 0);
        Edges.due("far(1)", x.far(1), 1);
        Edges.due("far(2)", x.far(2), 0);
        Edges.due("canopy()", x.canopy(), 0);
    }

    @Edges.Says(promise = 22, words = "how many are so far (1), the least NUMBER of these (2)")
    private static void farCountsAllThatAreSoFar() {
        LeaningTrees x = Edges.tree(2, 10);
        Edges.due("far(0)", x.far(0), 1);
        Edges.due("far(1)", x.far(1), 1);
        Edges.due("far(2)", x.far(2), 0);
        x = new LeaningTrees();
        Edges.due("far(0)", x.far(0), 2);
        Edges.due("far(1)", x.far(1), 2);
        Edges.due("far(2)", x.far(2), 3);
        x.number(4);
        Edges.due("far(2) of the greatest", x.far(2), 0);
        Edges.due("far(1) of the greatest", x.far(1), 2);
    }

    @Edges.Says(promise = 22, words = "NONE.")
    private static void farHasThreeQuestions() {
        for (int n = 1; n <= 7; n += 3) {
            int nodes = n;
            Edges.takes("far of " + n, () -> Edges.tree(nodes, 0), LeaningTrees::far, 0, 2, Edges.NONE);
        }
    }

    // ---- 23, 24, 25 canopy, inClass, likeness

    @Edges.Says(promise = 23, words = "CANOPY of THE TREE.")
    private static void theLeastAndTheGreatestCanopy() {
        for (int n = 1; n <= 7; n++) {
            LeaningTrees x = Edges.tree(n, 0);
            Edges.due("canopy() of the least", x.canopy(), 0);
            x.mirror();
            Edges.due("canopy() of the greatest", x.canopy(), (1 << (n - 1)) - 1);
        }
    }

    @Edges.Says(words = "CANOPY: NODES 0 .. n less 2 with a right child, as bits.")
    private static void eachNodeHasItsBit() {
        for (int n = 1; n <= 7; n++) {
            for (int k = 0; k < Edges.MANY[n]; k++) {
                LeaningTrees x = numbered(n, k, 0);
                int bits = 0;
                for (int i = 0; i <= n - 2; i++) {
                    bits |= x.of(i, 3) != Edges.NOT ? 1 << i : 0;
                }
                Edges.due("canopy() of " + k + " of " + n, x.canopy(), bits);
            }
        }
    }

    @Edges.Says(promise = 24, words = "Of CLASS of a CANOPY how many TREES (what 0), the least NUMBER (1), the greatest (2).")
    private static void theFirstAndTheLastClass() {
        for (int n = 1; n <= 7; n++) {
            LeaningTrees x = Edges.tree(n, 0);
            int last = (1 << (n - 1)) - 1;
            Edges.due("inClass(0, 0)", x.inClass(0, 0), 1);
            Edges.due("inClass(0, 1)", x.inClass(0, 1), 0);
            Edges.due("inClass(0, 2)", x.inClass(0, 2), 0);
            Edges.due("inClass of the last, 0", x.inClass(last, 0), 1);
            Edges.due("inClass of the last, 1", x.inClass(last, 1), Edges.MANY[n] - 1);
            Edges.due("inClass of the last, 2", x.inClass(last, 2), Edges.MANY[n] - 1);
            int all = 0;
            for (int set = 0; set <= last; set++) {
                all += x.inClass(set, 0);
            }
            Edges.due("each TREE is in one CLASS", all, Edges.MANY[n]);
        }
        LeaningTrees x = Edges.tree(4, 0);
        Edges.due("inClass(1, 0)", x.inClass(1, 0), 3);
        Edges.due("inClass(1, 1)", x.inClass(1, 1), 5);
        Edges.due("inClass(1, 2)", x.inClass(1, 2), 9);
    }

    @Edges.Says(promise = 24, words = "BAD: set; NONE.")
    private static void noSuchCanopyIsBadAheadOfNone() {
        for (int n = 1; n <= 7; n++) {
            int nodes = n;
            int last = (1 << (n - 1)) - 1;
            for (int what = 0; what <= 2; what++) {
                int asked = what;
                Edges.takes("inClass(.., " + what + ") of " + n, () -> Edges.tree(nodes, 0), (x, set) -> x.inClass(set, asked), 0, last, Edges.BAD);
            }
            LeaningTrees x = Edges.tree(n, 0);
            Edges.due("inClass, both wrong", x.inClass(last + 1, 3), Edges.BAD);
            Edges.due("inClass, both wrong", x.inClass(-1, -1), Edges.BAD);
            Edges.due("inClass, both far out", x.inClass(Integer.MIN_VALUE, Integer.MAX_VALUE), Edges.BAD);
        }
    }

    @Edges.Says(promise = 24, words = "NONE.")
    private static void inClassHasThreeQuestions() {
        for (int n = 1; n <= 7; n++) {
            int nodes = n;
            int last = (1 << (n - 1)) - 1;
            Edges.takes("inClass(0, ..) of " + n, () -> Edges.tree(nodes, 0), (x, what) -> x.inClass(0, what), 0, 2, Edges.NONE);
            Edges.takes("inClass of the last of " + n, () -> Edges.tree(nodes, 0), (x, what) -> x.inClass(last, what), 0, 2, Edges.NONE);
        }
    }

    @Edges.Says(promise = 25, words = "In how many NODES of 0 .. n less 2 CANOPIES of THE TREE and that of a SHELF differ.")
    private static void theLeastAndTheGreatestDiffer() {
        for (int n = 1; n <= 7; n++) {
            Edges.due("likeness(0) of the least and the greatest", leastAndGreatest(n).likeness(0), n - 1);
            Edges.due("likeness(0) of the greatest and the least", greatestAndLeast(n).likeness(0), n - 1);
            Edges.due("likeness(0) of like ones", likeOnes(n).likeness(0), 0);
        }
        Edges.due("likeness(0) of one CLASS", Edges.pair(4, 1000, 3000).likeness(0), 0);
        Edges.due("likeness(0) of the first and the last node", Edges.pair(7, 1000000, 10).likeness(0), 2);
    }

    @Edges.Says(promise = 25, words = "NONE; EMPTY; OTHER.")
    private static void likenessNone() {
        Edges.takes("likeness", Edges::shelved, LeaningTrees::likeness, 0, 3, Edges.NONE);
    }

    @Edges.Says(promise = 25, words = "EMPTY")
    private static void likenessEmpty() {
        emptyOfShelf("likeness(3)", x -> x.likeness(3), Edges.EMPTY);
    }

    @Edges.Says(promise = 25, words = "OTHER")
    private static void likenessOther() {
        otherOfShelf("likeness", LeaningTrees::likeness, Edges.OTHER);
    }
}
