/** Each promise by itself: ordinary inputs, the edges that the document names, wrong inputs. Answers worked out by hand. */
public final class PromisesTest {
    private static int wrong = 0;
    private static int asked = 0;
    private static int promise = 0;

    private static void due(String call, long got, long want) {
        asked++;
        if (got != want) {
            wrong++;
            System.out.println("promise " + promise + ": " + call + " answered " + got + ", due is " + want);
        }
    }

    /** A new object with THE TREE of n nodes and a row. */
    private static LeaningTrees with(int n, int digits) {
        LeaningTrees x = new LeaningTrees();
        x.nodes(n);
        if (x.row(digits) < 0) {
            throw new IllegalStateException("the test's own row is none: " + digits);
        }
        return x;
    }

    /** A new object with THE TREE of n nodes, and another tree of n nodes on shelf 0. */
    private static LeaningTrees pair(int n, int digits, int shelfDigits) {
        LeaningTrees x = with(n, shelfDigits);
        x.keep(0);
        x.row(digits);
        return x;
    }

    private static void feedAll(LeaningTrees x, String text) {
        for (int i = 0; i < text.length(); i++) {
            x.feed(text.charAt(i));
        }
    }

    private static String written(LeaningTrees x) {
        StringBuilder text = new StringBuilder();
        for (int i = 0; i < x.written(-1); i++) {
            text.append((char) x.written(i));
        }
        return text.toString();
    }

    private static void dueText(LeaningTrees x, String want) {
        asked++;
        String got = written(x);
        if (!got.equals(want)) {
            wrong++;
            System.out.println("promise " + promise + ": written is " + got + ", due is " + want);
        }
    }

    private static void dueRead(String text, int want) {
        LeaningTrees x = with(4, 1010);
        feedAll(x, text);
        due("read() of " + text, x.read(), want);
        due("count(2) behind read() of " + text, x.count(2), 0);
        due("count(1) behind read() of " + text, x.count(1), want > 0 ? 0 : 1);
        if (want > 0) {
            dueText(x, text);
        } else {
            due("digits() behind a refused read()", x.digits(), 1010);
        }
    }

    private static final int[] FAR_OUT = {Integer.MIN_VALUE, -1000000, -2, 1000000, Integer.MAX_VALUE};

    public static void main(String[] args) {
        theTree();
        ofNodes();
        turns();
        taking();
        order();
        meets();
        ways();
        chainsAndMarks();
        classes();
        shelves();
        together();
        lists();
        playing();
        tape();
        texts();
        image();
        counts();
        System.out.println(asked + " answers looked at, " + wrong + " wrong");
        if (wrong != 0) {
            System.exit(1);
        }
    }

    private static void theTree() {
        promise = 1;
        LeaningTrees x = new LeaningTrees();
        due("count(0)", x.count(0), 3);
        due("digits()", x.digits(), 0);
        for (int what = 1; what <= 4; what++) {
            due("count", x.count(what), 0);
        }
        for (int i = 0; i < 3; i++) {
            due("of", x.of(i, 0), 0);
        }
        for (int i = 0; i < 4; i++) {
            due("shelf", x.shelf(i, 0), LeaningTrees.EMPTY);
        }
        due("off()", x.off(), LeaningTrees.STATE);
        due("undo()", x.undo(), LeaningTrees.STATE);

        promise = 2;
        x.turn(0);
        due("nodes(7)", x.nodes(7), 3);
        due("digits()", x.digits(), 0);
        due("count(0)", x.count(0), 7);
        due("count(1)", x.count(1), 0);
        due("nodes(1)", x.nodes(1), 7);
        due("nodes(4)", x.nodes(4), 1);
        x.turn(0);
        due("nodes(0)", x.nodes(0), LeaningTrees.BAD);
        due("nodes(8)", x.nodes(8), LeaningTrees.BAD);
        for (int n : FAR_OUT) {
            due("nodes", x.nodes(n), LeaningTrees.BAD);
        }
        due("count(0)", x.count(0), 4);
        due("digits()", x.digits(), 1000);
        due("count(1), a refused nodes() leaves steps", x.count(1), 1);
        due("nodes(4)", x.nodes(4), 4);
        due("digits()", x.digits(), 0);
        due("count(1)", x.count(1), 0);
        due("nodes(4) of like ones", x.nodes(4), 4);
        x.number(3);
        x.number(0);
        due("count(1)", x.count(1), 2);
        x.nodes(4);
        due("count(1), nodes() leaves none even if all is so already", x.count(1), 0);

        promise = 3;
        x = new LeaningTrees();
        due("row(210)", x.row(210), 4);
        due("row(210)", x.row(210), 4);
        due("count(1)", x.count(1), 1);
        due("row(10)", x.row(10), 1);
        due("row(100)", x.row(100), 2);
        due("row(200)", x.row(200), 3);
        due("row(0)", x.row(0), 0);
        due("count(1)", x.count(1), 5);
        int[] none = {110, 1, 11, 20, 220, 300, 310, 1000, -1, -210, 900, 90, 9, Integer.MAX_VALUE, Integer.MIN_VALUE};
        for (int digits : none) {
            due("row(" + digits + ")", x.row(digits), LeaningTrees.BAD);
        }
        due("digits()", x.digits(), 0);
        due("count(1)", x.count(1), 5);
        x.nodes(7);
        due("row(6543210)", x.row(6543210), 428);
        due("row(7000000)", x.row(7000000), LeaningTrees.BAD);
        due("row(10000000)", x.row(10000000), LeaningTrees.BAD);
        due("digits()", x.digits(), 6543210);
        x.nodes(1);
        due("row(0)", x.row(0), 0);
        due("row(1)", x.row(1), LeaningTrees.BAD);
        due("count(1)", x.count(1), 0);

        promise = 5;
        x = new LeaningTrees();
        due("number(3)", x.number(3), 0);
        due("digits()", x.digits(), 200);
        due("number(3)", x.number(3), 3);
        due("count(1)", x.count(1), 1);
        due("number(4)", x.number(4), 3);
        due("digits()", x.digits(), 210);
        due("number(5)", x.number(5), LeaningTrees.NONE);
        due("number(-1)", x.number(-1), LeaningTrees.NONE);
        for (int k : FAR_OUT) {
            due("number", x.number(k), LeaningTrees.NONE);
        }
        due("which()", x.which(), 4);
        x.nodes(1);
        due("number(0)", x.number(0), 0);
        due("number(1)", x.number(1), LeaningTrees.NONE);
        x.nodes(7);
        due("number(428)", x.number(428), 0);
        due("digits()", x.digits(), 6543210);
        due("number(429)", x.number(429), LeaningTrees.NONE);
        due("number(427)", x.number(427), 428);
        due("digits()", x.digits(), 6543200);

        promise = 6;
        for (int n = 1; n <= 7; n++) {
            x = new LeaningTrees();
            x.nodes(n);
            due("which()", x.which(), 0);
            x.number(x.many(n) - 1);
            due("which()", x.which(), x.many(n) - 1);
        }

        promise = 7;
        int[] catalan = {1, 2, 5, 14, 42, 132, 429};
        for (int n = 1; n <= 7; n++) {
            due("many(" + n + ")", x.many(n), catalan[n - 1]);
        }
        due("many(0)", x.many(0), LeaningTrees.BAD);
        due("many(8)", x.many(8), LeaningTrees.BAD);
        due("many(-1)", x.many(-1), LeaningTrees.BAD);
        for (int n : FAR_OUT) {
            due("many", x.many(n), LeaningTrees.BAD);
        }

        promise = 8;
        due("digits()", with(5, 40200).digits(), 40200);
        due("digits()", with(1, 0).digits(), 0);
        due("digits()", with(7, 10).digits(), 10);
    }

    private static void ofNodes() {
        promise = 4;
        // Row 0 3 0 1 0 0: 5 is the root; 1 is its left child, with 0 left and 3 right; 2 left and 4 right of 3.
        LeaningTrees x = with(6, 30100);
        int[][] want = {
            // b, parent, left child, right child, nodes at the left, nodes above
            {0, 1, -5, -5, 0, 2},
            {3, 5, 0, 3, 1, 1},
            {0, 3, -5, -5, 0, 3},
            {1, 1, 2, 4, 1, 2},
            {0, 3, -5, -5, 0, 3},
            {0, -5, 1, -5, 5, 0},
        };
        for (int i = 0; i < 6; i++) {
            for (int what = 0; what <= 5; what++) {
                due("of(" + i + ", " + what + ")", x.of(i, what), want[i][what]);
            }
        }
        due("of(-1, 0)", x.of(-1, 0), LeaningTrees.NONE);
        due("of(6, 0)", x.of(6, 0), LeaningTrees.NONE);
        due("of(0, -1)", x.of(0, -1), LeaningTrees.NONE);
        due("of(0, 6)", x.of(0, 6), LeaningTrees.NONE);
        for (int far : FAR_OUT) {
            due("of", x.of(far, 1), LeaningTrees.NONE);
            due("of", x.of(1, far), LeaningTrees.NONE);
        }
        x.nodes(1);
        int[] alone = {0, -5, -5, -5, 0, 0};
        for (int what = 0; what <= 5; what++) {
            due("of(0, " + what + ")", x.of(0, what), alone[what]);
        }
        due("of(1, 0)", x.of(1, 0), LeaningTrees.NONE);
    }

    private static void turns() {
        promise = 9;
        LeaningTrees x = with(6, 30100);
        due("turn(1)", x.turn(1), with(6, 40100).which());
        due("digits()", x.digits(), 40100);
        due("turn(1), the root", x.turn(1), LeaningTrees.NOT);
        due("turn(5), a right child with something at its left", x.turn(5), LeaningTrees.NOT);
        due("turn(2)", x.turn(2), with(6, 42100).which());
        due("turn(0)", x.turn(0), with(6, 542100).which());
        due("digits()", x.digits(), 542100);
        due("turn(5)", x.turn(5), LeaningTrees.NOT);
        due("turn(4)", x.turn(4), LeaningTrees.NOT);
        due("turn(6)", x.turn(6), LeaningTrees.NONE);
        due("turn(-1)", x.turn(-1), LeaningTrees.NONE);
        for (int c : FAR_OUT) {
            due("turn", x.turn(c), LeaningTrees.NONE);
        }
        due("count(1)", x.count(1), 4);
        due("digits()", x.digits(), 542100);
        x.nodes(1);
        due("turn(0)", x.turn(0), LeaningTrees.NOT);

        promise = 10;
        x = with(6, 542100);
        due("back(0)", x.back(0), with(6, 42100).which());
        due("back(0)", x.back(0), LeaningTrees.NOT);
        due("back(1), whose right child has all the rest at its left", x.back(1), with(6, 32100).which());
        due("back(1)", x.back(1), with(6, 2100).which());
        due("digits()", x.digits(), 2100);
        due("back(2)", x.back(2), with(6, 100).which());
        due("back(3)", x.back(3), with(6, 0).which());
        due("back(5)", x.back(5), LeaningTrees.NOT);
        due("back(6)", x.back(6), LeaningTrees.NONE);
        due("back(-1)", x.back(-1), LeaningTrees.NONE);
        for (int c : FAR_OUT) {
            due("back", x.back(c), LeaningTrees.NONE);
        }
        due("count(1)", x.count(1), 6);
        x = with(5, 43010);
        due("back(1), whose right child has a left subtree", x.back(1), with(5, 41010).which());
        x.nodes(1);
        due("back(0)", x.back(0), LeaningTrees.NOT);

        promise = 11;
        x = with(6, 30100);
        due("mayTurn(0)", x.mayTurn(0), 3);
        due("mayTurn(1)", x.mayTurn(1), 2);
        due("mayTurn(2)", x.mayTurn(2), 7);
        due("mayTurn(3)", x.mayTurn(3), 10);
        due("mayTurn(4)", x.mayTurn(4), LeaningTrees.NONE);
        due("mayTurn(-1)", x.mayTurn(-1), LeaningTrees.NONE);
        for (int what : FAR_OUT) {
            due("mayTurn", x.mayTurn(what), LeaningTrees.NONE);
        }
        x.nodes(7);
        due("mayTurn(2)", x.mayTurn(2), 63);
        due("mayTurn(3)", x.mayTurn(3), 0);
        x.mirror();
        due("mayTurn(2)", x.mayTurn(2), 0);
        due("mayTurn(3)", x.mayTurn(3), 63);
        x.nodes(1);
        for (int what = 0; what < 4; what++) {
            due("mayTurn", x.mayTurn(what), 0);
        }

        promise = 12;
        x = new LeaningTrees();
        due("mirror()", x.mirror(), 4);
        due("digits()", x.digits(), 210);
        due("mirror()", x.mirror(), 0);
        due("count(1)", x.count(1), 2);
        x = with(3, 10);
        due("mirror() of one that is its own", x.mirror(), 1);
        due("count(1)", x.count(1), 1);
        x = with(6, 30100);
        due("mirror()", x.mirror(), with(6, 501010).which());
        due("digits()", x.digits(), 501010);
        x.nodes(1);
        due("mirror()", x.mirror(), 0);
        due("count(1)", x.count(1), 0);
    }

    private static void taking() {
        promise = 13;
        LeaningTrees x = new LeaningTrees();
        due("off()", x.off(), LeaningTrees.STATE);
        x.turn(0);
        x.back(0);
        x.mirror();
        x.number(1);
        x.row(100);
        due("off()", x.off(), 4);
        due("digits()", x.digits(), 10);
        due("off()", x.off(), 3);
        due("digits()", x.digits(), 210);
        due("off()", x.off(), 2);
        due("digits()", x.digits(), 0);
        due("off()", x.off(), 1);
        due("digits()", x.digits(), 100);
        due("off()", x.off(), 0);
        due("digits()", x.digits(), 0);
        due("off()", x.off(), LeaningTrees.STATE);

        x.nodes(4);
        for (int k = 1; k <= 13; k++) {
            x.number(k);
            due("count(1)", x.count(1), Math.min(k, 10));
        }
        for (int k = 12; k >= 3; k--) {
            due("off()", x.off(), k - 3);
            due("which()", x.which(), k);
        }
        due("off()", x.off(), LeaningTrees.STATE);
        due("which()", x.which(), 3);
        x.number(5);
        due("count(1)", x.count(1), 1);
        x.turn(9);
        x.back(3);
        x.row(9999);
        x.number(14);
        x.keep(1);
        x.lose(1);
        x.image();
        due("count(1), refused and asked things are no steps", x.count(1), 1);
        x.undo();
        due("count(1)", x.count(1), 0);
        due("which()", x.which(), 5);
    }

    private static void order() {
        promise = 14;
        LeaningTrees x = pair(4, 1010, 3100);
        due("below(0, 0)", x.below(0, 0), 0);
        due("below(0, 1)", x.below(0, 1), 0);
        x = pair(4, 1000, 3100);
        due("below(0, 0)", x.below(0, 0), 1);
        due("below(0, 1)", x.below(0, 1), 0);
        x = pair(4, 3100, 1000);
        due("below(0, 0)", x.below(0, 0), 0);
        due("below(0, 1)", x.below(0, 1), 1);
        x = pair(4, 2100, 2100);
        due("below(0, 0)", x.below(0, 0), 1);
        due("below(0, 1)", x.below(0, 1), 1);
        due("below(0, 2)", x.below(0, 2), LeaningTrees.NONE);
        due("below(0, -1)", x.below(0, -1), LeaningTrees.NONE);
        due("below(1, 2), NONE is first", x.below(1, 2), LeaningTrees.NONE);
        due("below(1, 0)", x.below(1, 0), LeaningTrees.EMPTY);
        due("below(4, 0)", x.below(4, 0), LeaningTrees.NONE);
        due("below(-1, 0)", x.below(-1, 0), LeaningTrees.NONE);
        x.nodes(5);
        due("below(0, 0)", x.below(0, 0), LeaningTrees.OTHER);
        due("below(0, 1)", x.below(0, 1), LeaningTrees.OTHER);
        due("below(0, 2)", x.below(0, 2), LeaningTrees.NONE);

        promise = 17;
        x = pair(3, 0, 210);
        due("between(0, -1)", x.between(0, -1), 5);
        for (int k = 0; k < 5; k++) {
            due("between", x.between(0, k), k);
        }
        due("between(0, 5)", x.between(0, 5), LeaningTrees.NONE);
        x = pair(3, 10, 210);
        due("between(0, -1)", x.between(0, -1), 2);
        due("between(0, 0)", x.between(0, 0), 1);
        due("between(0, 1)", x.between(0, 1), 4);
        due("between(0, 2)", x.between(0, 2), LeaningTrees.NONE);
        x = pair(3, 10, 200);
        due("between(0, -1), not below", x.between(0, -1), 0);
        due("between(0, 0)", x.between(0, 0), LeaningTrees.NONE);
        x = pair(3, 210, 0);
        due("between(0, -1), above", x.between(0, -1), 0);
        due("between(0, 0)", x.between(0, 0), LeaningTrees.NONE);
        x = pair(3, 10, 10);
        due("between(0, -1) like ones", x.between(0, -1), 1);
        due("between(0, 0)", x.between(0, 0), 1);
        due("between(0, 1)", x.between(0, 1), LeaningTrees.NONE);
        due("between(0, -2)", x.between(0, -2), LeaningTrees.NONE);
        due("between(1, -2), NONE is first", x.between(1, -2), LeaningTrees.NONE);
        due("between(1, 0)", x.between(1, 0), LeaningTrees.EMPTY);
        due("between(1, -1)", x.between(1, -1), LeaningTrees.EMPTY);
        due("between(4, -1)", x.between(4, -1), LeaningTrees.NONE);
        due("between(-1, -1)", x.between(-1, -1), LeaningTrees.NONE);
        for (int far : FAR_OUT) {
            due("between", x.between(far, 0), LeaningTrees.NONE);
            due("between", x.between(0, far), LeaningTrees.NONE);
        }
        x.nodes(2);
        due("between(0, 9)", x.between(0, 9), LeaningTrees.OTHER);
        due("between(0, -2)", x.between(0, -2), LeaningTrees.NONE);

        promise = 21;
        int[] pairs = {1, 3, 13, 68, 399, 2530};
        for (int n = 1; n <= 6; n++) {
            due("pairs(" + n + ")", x.pairs(n), pairs[n - 1]);
        }
        due("pairs(0)", x.pairs(0), LeaningTrees.BAD);
        due("pairs(7)", x.pairs(7), LeaningTrees.BAD);
        for (int n : FAR_OUT) {
            due("pairs", x.pairs(n), LeaningTrees.BAD);
        }
    }

    private static void meets() {
        promise = 15;
        LeaningTrees x = pair(3, 10, 200);
        due("meet(0, 0)", x.meet(0, 0), 0);
        due("meet(0, 1)", x.meet(0, 1), 4);
        x = pair(3, 10, 100);
        due("meet(0, 0)", x.meet(0, 0), 0);
        due("meet(0, 1), 110 is no row", x.meet(0, 1), 4);
        x = pair(4, 1010, 2100);
        due("meet(0, 0)", x.meet(0, 0), with(4, 1000).which());
        due("meet(0, 1), through two nodes", x.meet(0, 1), with(4, 3210).which());
        x = pair(4, 1010, 3000);
        due("meet(0, 0)", x.meet(0, 0), with(4, 1000).which());
        due("meet(0, 1)", x.meet(0, 1), with(4, 3010).which());
        x = pair(4, 2100, 2100);
        due("meet(0, 0)", x.meet(0, 0), with(4, 2100).which());
        due("meet(0, 1)", x.meet(0, 1), with(4, 2100).which());
        due("digits(), asking changes nothing", x.digits(), 2100);
        due("count(1)", x.count(1), 1);
        due("meet(0, 2)", x.meet(0, 2), LeaningTrees.NONE);
        due("meet(0, -1)", x.meet(0, -1), LeaningTrees.NONE);
        due("meet(3, 0)", x.meet(3, 0), LeaningTrees.EMPTY);
        due("meet(3, 2)", x.meet(3, 2), LeaningTrees.NONE);
        due("meet(4, 0)", x.meet(4, 0), LeaningTrees.NONE);
        due("meet(-1, 0)", x.meet(-1, 0), LeaningTrees.NONE);
        x.nodes(3);
        due("meet(0, 0)", x.meet(0, 0), LeaningTrees.OTHER);
        due("meet(0, 5)", x.meet(0, 5), LeaningTrees.NONE);

        promise = 16;
        x = with(4, 1010);
        due("meetAll(0) without shelves", x.meetAll(0), 6);
        due("meetAll(1) without shelves", x.meetAll(1), 6);
        x.row(3100);
        x.keep(0);
        x.row(3010);
        x.keep(3);
        x.nodes(5);
        x.keep(1);
        due("meetAll(0) of five", x.meetAll(0), 0);
        x.nodes(4);
        x.row(2100);
        due("meetAll(0), one of five nodes passed over", x.meetAll(0), with(4, 2000).which());
        due("meetAll(1)", x.meetAll(1), with(4, 3210).which());
        x.lose(3);
        due("meetAll(0)", x.meetAll(0), with(4, 2100).which());
        due("meetAll(1)", x.meetAll(1), with(4, 3100).which());
        due("meetAll(2)", x.meetAll(2), LeaningTrees.NONE);
        due("meetAll(-1)", x.meetAll(-1), LeaningTrees.NONE);
        for (int what : FAR_OUT) {
            due("meetAll", x.meetAll(what), LeaningTrees.NONE);
        }
        x.nodes(1);
        due("meetAll(1)", x.meetAll(1), 0);
    }

    private static void ways() {
        promise = 18;
        LeaningTrees x = pair(3, 200, 10);
        due("way(0, 0): the pentagon's far side", x.way(0, 0), 2);
        due("way(0, 1): up at 1", x.way(0, 1), 1);
        x = pair(3, 10, 200);
        due("way(0, 0)", x.way(0, 0), 2);
        due("way(0, 1): up at 0", x.way(0, 1), 0);
        x = pair(3, 210, 0);
        due("way(0, 0)", x.way(0, 0), 2);
        due("way(0, 1): back at 0", x.way(0, 1), 100);
        x = pair(3, 210, 200);
        due("way(0, 1): back at 1", x.way(0, 1), 101);
        x = pair(4, 3210, 3200);
        due("way(0, 0)", x.way(0, 0), 1);
        due("way(0, 1): back at 2", x.way(0, 1), 102);
        x = pair(4, 3200, 3200);
        due("way(0, 0) to itself", x.way(0, 0), 0);
        due("way(0, 1) to itself", x.way(0, 1), LeaningTrees.NOT);
        due("way(0, 2)", x.way(0, 2), LeaningTrees.NONE);
        due("way(0, -1)", x.way(0, -1), LeaningTrees.NONE);
        due("way(1, 0)", x.way(1, 0), LeaningTrees.EMPTY);
        due("way(1, 1)", x.way(1, 1), LeaningTrees.EMPTY);
        due("way(1, 2)", x.way(1, 2), LeaningTrees.NONE);
        due("way(4, 0)", x.way(4, 0), LeaningTrees.NONE);
        due("way(-1, 0)", x.way(-1, 0), LeaningTrees.NONE);
        x.nodes(7);
        due("way(0, 0)", x.way(0, 0), LeaningTrees.OTHER);
        due("way(0, 1)", x.way(0, 1), LeaningTrees.OTHER);
        due("way(0, 2)", x.way(0, 2), LeaningTrees.NONE);

        promise = 22;
        x.nodes(1);
        due("far(0)", x.far(0), 0);
        due("far(1)", x.far(1), 1);
        due("far(2)", x.far(2), 0);
        x.nodes(2);
        due("far(0)", x.far(0), 1);
        due("far(1)", x.far(1), 1);
        due("far(2)", x.far(2), 1);
        x.nodes(3);
        x.row(200);
        due("far(0)", x.far(0), 2);
        due("far(1)", x.far(1), 2);
        due("far(2)", x.far(2), 0);
        due("far(3)", x.far(3), LeaningTrees.NONE);
        due("far(-1)", x.far(-1), LeaningTrees.NONE);
        for (int what : FAR_OUT) {
            due("far", x.far(what), LeaningTrees.NONE);
        }
        // The greatest ways of all trees of n nodes are known: 0 1 2 4 5 7 9.
        int[] greatest = {0, 1, 2, 4, 5, 7, 9};
        int[] many = {1, 2, 5, 14, 42, 132, 429};
        for (int n = 1; n <= 7; n++) {
            int most = 0;
            for (int k = 0; k < many[n - 1]; k++) {
                x = with(n, 0);
                x.number(k);
                most = Math.max(most, x.far(0));
            }
            due("the greatest far(0) of " + n, most, greatest[n - 1]);
        }
    }

    private static void chainsAndMarks() {
        promise = 19;
        LeaningTrees x = pair(3, 0, 210);
        due("chain(0, 0)", x.chain(0, 0), 2);
        due("chain(0, 1)", x.chain(0, 1), 3);
        x = pair(7, 0, 6543210);
        due("chain(0, 0)", x.chain(0, 0), 6);
        due("chain(0, 1)", x.chain(0, 1), 21);
        x = pair(3, 10, 200);
        due("chain(0, 0)", x.chain(0, 0), LeaningTrees.NOT);
        due("chain(0, 1)", x.chain(0, 1), LeaningTrees.NOT);
        due("chain(0, 2)", x.chain(0, 2), LeaningTrees.NONE);
        x = pair(3, 210, 10);
        due("chain(0, 0), above", x.chain(0, 0), LeaningTrees.NOT);
        x = pair(3, 10, 10);
        due("chain(0, 0) to itself", x.chain(0, 0), 0);
        due("chain(0, 1) to itself", x.chain(0, 1), 0);
        due("chain(0, 2)", x.chain(0, 2), LeaningTrees.NONE);
        due("chain(0, -1)", x.chain(0, -1), LeaningTrees.NONE);
        due("chain(2, 0)", x.chain(2, 0), LeaningTrees.EMPTY);
        due("chain(2, 2)", x.chain(2, 2), LeaningTrees.NONE);
        due("chain(4, 0)", x.chain(4, 0), LeaningTrees.NONE);
        due("chain(-1, 0)", x.chain(-1, 0), LeaningTrees.NONE);
        x.nodes(4);
        due("chain(0, 0)", x.chain(0, 0), LeaningTrees.OTHER);
        due("chain(0, 1)", x.chain(0, 1), LeaningTrees.OTHER);

        promise = 20;
        due("mark(0)", x.mark(0), -93);
        due("mark(1)", x.mark(1), -94);
        due("mark(4)", x.mark(4), -99);
        due("mark(-1)", x.mark(-1), -99);
        due("mark of like ones", pair(3, 100, 100).mark(0), 1);
        due("mark of neighbours", pair(3, 100, 200).mark(0), -1);
        due("mark over a chain of three", pair(3, 100, 210).mark(0), 0);
        due("mark of the pentagon", pair(3, 0, 210).mark(0), 1);
        due("mark of a chain of three", pair(3, 0, 200).mark(0), 0);
        due("mark of what is not below", pair(3, 10, 200).mark(0), -95);
        due("mark of what is above", pair(3, 210, 0).mark(0), -95);
        due("mark of a square", pair(4, 0, 1010).mark(0), 1);
        due("mark of all", pair(7, 0, 6543210).mark(0), 1);
        due("mark of all", pair(6, 0, 543210).mark(0), -1);
    }

    private static void classes() {
        promise = 23;
        due("canopy()", with(6, 30100).canopy(), 10);
        due("canopy()", with(6, 542100).canopy(), 15);
        due("canopy()", with(7, 6543210).canopy(), 63);
        due("canopy()", with(7, 0).canopy(), 0);
        due("canopy()", with(7, 10).canopy(), 32);
        due("canopy()", with(1, 0).canopy(), 0);

        promise = 24;
        LeaningTrees x = with(4, 2100);
        due("inClass(3, 0)", x.inClass(3, 0), 3);
        due("inClass(3, 1)", x.inClass(3, 1), 8);
        due("inClass(3, 2)", x.inClass(3, 2), 12);
        due("inClass(8, 0)", x.inClass(8, 0), LeaningTrees.BAD);
        due("inClass(-1, 0)", x.inClass(-1, 0), LeaningTrees.BAD);
        due("inClass(8, 3), BAD is first", x.inClass(8, 3), LeaningTrees.BAD);
        due("inClass(7, 3)", x.inClass(7, 3), LeaningTrees.NONE);
        due("inClass(7, -1)", x.inClass(7, -1), LeaningTrees.NONE);
        for (int far : FAR_OUT) {
            due("inClass", x.inClass(far, 0), LeaningTrees.BAD);
            due("inClass", x.inClass(0, far), LeaningTrees.NONE);
        }
        x.nodes(1);
        due("inClass(0, 0)", x.inClass(0, 0), 1);
        due("inClass(0, 1)", x.inClass(0, 1), 0);
        due("inClass(0, 2)", x.inClass(0, 2), 0);
        due("inClass(1, 0)", x.inClass(1, 0), LeaningTrees.BAD);
        x.nodes(7);
        int all = 0;
        for (int set = 0; set < 64; set++) {
            all += x.inClass(set, 0);
        }
        due("all classes of 7 together", all, 429);
        due("inClass(64, 0)", x.inClass(64, 0), LeaningTrees.BAD);
        due("inClass(63, 2)", x.inClass(63, 2), 428);

        promise = 25;
        due("likeness(0)", pair(6, 30100, 542100).likeness(0), 2);
        due("likeness(0)", pair(6, 30100, 30100).likeness(0), 0);
        due("likeness(0)", pair(7, 0, 6543210).likeness(0), 6);
        x = pair(3, 10, 200);
        due("likeness(0)", x.likeness(0), 2);
        due("likeness(1)", x.likeness(1), LeaningTrees.EMPTY);
        due("likeness(4)", x.likeness(4), LeaningTrees.NONE);
        due("likeness(-1)", x.likeness(-1), LeaningTrees.NONE);
        x.nodes(2);
        due("likeness(0)", x.likeness(0), LeaningTrees.OTHER);
        due("likeness(0) of one node", pair(1, 0, 0).likeness(0), 0);
    }

    private static void shelves() {
        promise = 26;
        LeaningTrees x = with(4, 2100);
        due("keep(0)", x.keep(0), 8);
        due("keep(3)", x.keep(3), 8);
        due("keep(4)", x.keep(4), LeaningTrees.NONE);
        due("keep(-1)", x.keep(-1), LeaningTrees.NONE);
        for (int shelf : FAR_OUT) {
            due("keep", x.keep(shelf), LeaningTrees.NONE);
        }
        due("count(3)", x.count(3), 2);
        x.row(10);
        due("keep(0)", x.keep(0), 1);
        due("count(3)", x.count(3), 2);
        due("shelf(0, 2)", x.shelf(0, 2), 10);
        due("shelf(3, 2)", x.shelf(3, 2), 2100);
        x.mirror();
        due("shelf(0, 2), a shelf stays as it is", x.shelf(0, 2), 10);

        promise = 27;
        x = with(4, 2100);
        x.keep(0);
        x.nodes(6);
        due("lay(0)", x.lay(0), 4);
        due("digits()", x.digits(), 2100);
        due("count(1)", x.count(1), 1);
        due("lay(0) again", x.lay(0), 4);
        due("count(1)", x.count(1), 1);
        due("off()", x.off(), 0);
        due("count(0), off() brings nodes back", x.count(0), 6);
        due("lay(1)", x.lay(1), LeaningTrees.EMPTY);
        due("lay(4)", x.lay(4), LeaningTrees.NONE);
        due("lay(-1)", x.lay(-1), LeaningTrees.NONE);
        due("shelf(0, 0)", x.shelf(0, 0), 4);

        promise = 28;
        due("lose(0)", x.lose(0), 4);
        due("lose(0)", x.lose(0), LeaningTrees.EMPTY);
        due("count(3)", x.count(3), 0);
        due("count(0)", x.count(0), 6);
        due("lose(4)", x.lose(4), LeaningTrees.NONE);
        due("lose(-1)", x.lose(-1), LeaningTrees.NONE);
        for (int shelf : FAR_OUT) {
            due("lose", x.lose(shelf), LeaningTrees.NONE);
            due("lay", x.lay(shelf), LeaningTrees.NONE);
        }
    }

    private static void together() {
        promise = 29;
        LeaningTrees x = with(3, 210);
        x.keep(0);
        x.nodes(4);
        x.row(1010);
        due("over(0)", x.over(0), 7);
        due("digits()", x.digits(), 2101010);
        due("of(2, 1): the shelf's tree hangs left of the first node", x.of(0, 1), 3);
        due("over(0)", x.over(0), LeaningTrees.FULL);
        due("digits()", x.digits(), 2101010);
        due("count(1)", x.count(1), 2);
        due("off()", x.off(), 1);
        due("count(0)", x.count(0), 4);
        due("digits()", x.digits(), 1010);
        due("over(1)", x.over(1), LeaningTrees.EMPTY);
        due("over(4)", x.over(4), LeaningTrees.NONE);
        due("over(-1)", x.over(-1), LeaningTrees.NONE);
        x.nodes(7);
        due("over(1), EMPTY is ahead of FULL", x.over(1), LeaningTrees.EMPTY);
        due("over(0)", x.over(0), LeaningTrees.FULL);

        promise = 30;
        x = with(3, 210);
        x.keep(0);
        x.nodes(4);
        x.row(1010);
        due("under(0)", x.under(0), 7);
        due("digits(): nodes 2 and 3 end it", x.digits(), 1043210);
        due("of(4, 1)", x.of(4, 1), 3);
        due("under(0)", x.under(0), LeaningTrees.FULL);
        due("off()", x.off(), 1);
        due("digits()", x.digits(), 1010);
        due("under(1)", x.under(1), LeaningTrees.EMPTY);
        due("under(4)", x.under(4), LeaningTrees.NONE);
        due("under(-1)", x.under(-1), LeaningTrees.NONE);
        x.nodes(5);
        due("under(0)", x.under(0), LeaningTrees.FULL);
        x.nodes(1);
        x.keep(1);
        for (int n = 2; n <= 7; n++) {
            due("under(1)", x.under(1), n);
        }
        due("digits()", x.digits(), 6543210);
        due("under(1)", x.under(1), LeaningTrees.FULL);
        x.nodes(1);
        for (int n = 2; n <= 7; n++) {
            due("over(1)", x.over(1), n);
        }
        due("digits()", x.digits(), 0);
        due("count(1)", x.count(1), 6);
        for (int shelf : FAR_OUT) {
            due("over", x.over(shelf), LeaningTrees.NONE);
            due("under", x.under(shelf), LeaningTrees.NONE);
        }

        promise = 31;
        x = with(5, 40200);
        x.keep(2);
        x.nodes(2);
        due("shelf(2, 0)", x.shelf(2, 0), 5);
        due("shelf(2, 1)", x.shelf(2, 1), with(5, 40200).which());
        due("shelf(2, 2)", x.shelf(2, 2), 40200);
        due("shelf(2, 3)", x.shelf(2, 3), LeaningTrees.NONE);
        due("shelf(2, -1)", x.shelf(2, -1), LeaningTrees.NONE);
        due("shelf(0, 0)", x.shelf(0, 0), LeaningTrees.EMPTY);
        due("shelf(0, 3)", x.shelf(0, 3), LeaningTrees.NONE);
        due("shelf(4, 0)", x.shelf(4, 0), LeaningTrees.NONE);
        due("shelf(-1, 0)", x.shelf(-1, 0), LeaningTrees.NONE);
    }

    private static void lists() {
        promise = 32;
        LeaningTrees x = new LeaningTrees();
        due("list(0, 20)", x.list(0, 20), 1);
        due("get(0, 19)", x.get(0, 19), 0);
        due("list(0, 21)", x.list(0, 21), LeaningTrees.BAD);
        due("list(0, -2)", x.list(0, -2), LeaningTrees.BELOW);
        due("list(3, 21)", x.list(3, 21), LeaningTrees.NONE);
        due("list(-1, -2)", x.list(-1, -2), LeaningTrees.NONE);
        for (int list : FAR_OUT) {
            due("list", x.list(list, 0), LeaningTrees.NONE);
        }
        due("list", x.list(0, Integer.MAX_VALUE), LeaningTrees.BAD);
        due("list", x.list(0, Integer.MIN_VALUE), LeaningTrees.BELOW);
        x.put(0, 5, 77);
        due("get(0, 5)", x.get(0, 5), 77);
        due("list(0, 6)", x.list(0, 6), 1);
        due("get(0, 5), all are 0 again", x.get(0, 5), 0);
        due("get(0, 6)", x.get(0, 6), LeaningTrees.VOID);
        due("list(0, -1)", x.list(0, -1), 1);
        due("count(4)", x.count(4), 0);
        due("list(0, -1) where it is missing", x.list(0, -1), 1);
        due("list(2, 0)", x.list(2, 0), 1);
        due("count(4)", x.count(4), 1);

        promise = 33;
        x.list(1, 2);
        due("put(1, 0, v)", x.put(1, 0, Long.MIN_VALUE), 1);
        due("put(1, 1, v)", x.put(1, 1, Long.MAX_VALUE), 1);
        due("put(1, 2, v)", x.put(1, 2, 1), LeaningTrees.PLACE);
        due("put(1, -1, v)", x.put(1, -1, 1), LeaningTrees.PLACE);
        due("put(0, 0, v)", x.put(0, 0, 1), LeaningTrees.MISSING);
        due("put(0, -1, v)", x.put(0, -1, 1), LeaningTrees.MISSING);
        due("put(2, 0, v)", x.put(2, 0, 1), LeaningTrees.PLACE);
        due("put(3, 0, v)", x.put(3, 0, 1), LeaningTrees.NONE);
        due("put(-1, 9, v)", x.put(-1, 9, 1), LeaningTrees.NONE);
        for (int far : FAR_OUT) {
            due("put", x.put(far, 0, 1), LeaningTrees.NONE);
            due("put", x.put(1, far, 1), LeaningTrees.PLACE);
        }

        promise = 34;
        due("get(1, 0)", x.get(1, 0), Long.MIN_VALUE);
        due("get(1, 1)", x.get(1, 1), Long.MAX_VALUE);
        due("get(1, 2)", x.get(1, 2), LeaningTrees.VOID);
        due("get(1, -1)", x.get(1, -1), LeaningTrees.VOID);
        due("get(0, 0)", x.get(0, 0), LeaningTrees.VOID);
        due("get(3, 0)", x.get(3, 0), LeaningTrees.VOID);
        due("get(-1, 0)", x.get(-1, 0), LeaningTrees.VOID);
        x.put(1, 0, -3);
        due("get(1, 0)", x.get(1, 0), -3);
        for (int far : FAR_OUT) {
            due("get", x.get(far, 0), LeaningTrees.VOID);
            due("get", x.get(1, far), LeaningTrees.VOID);
        }
    }

    private static void playing() {
        promise = 35;
        LeaningTrees x = new LeaningTrees();
        x.list(0, 5);
        x.put(0, 0, 1);
        x.put(0, 1, 0);
        x.put(0, 2, -2);
        x.put(0, 3, 1);
        x.put(0, 4, 2);
        due("play(0)", x.play(0), 4);
        due("digits()", x.digits(), 210);
        due("count(1)", x.count(1), 4);
        due("off()", x.off(), 3);
        due("digits()", x.digits(), 200);
        due("play(1)", x.play(1), LeaningTrees.MISSING);
        due("play(3)", x.play(3), LeaningTrees.NONE);
        due("play(-1)", x.play(-1), LeaningTrees.NONE);
        due("get(0, 4), the list stays", x.get(0, 4), 2);
        long[] none = {3, -4, 7, -8, 4294967296L, -4294967297L, Long.MAX_VALUE, Long.MIN_VALUE, 2, -3};
        for (long v : none) {
            x = new LeaningTrees();
            x.list(2, 3);
            x.put(2, 1, v);
            due("play(2) with " + v, x.play(2), 1);
            due("digits()", x.digits(), 100);
        }
        x = new LeaningTrees();
        x.list(0, 20);
        for (int i = 0; i < 20; i++) {
            x.put(0, i, i % 2 == 0 ? 0 : -1);
        }
        x.put(0, 19, 1);
        due("play(0), of many turns", x.play(0), 19);
        due("count(1)", x.count(1), 10);
        for (int i = 9; i >= 0; i--) {
            due("off()", x.off(), i);
        }
        due("off()", x.off(), LeaningTrees.STATE);
        due("digits()", x.digits(), 100);

        promise = 36;
        x = pair(3, 200, 10);
        due("film(2, 0)", x.film(2, 0), 2);
        due("get(2, 0)", x.get(2, 0), 1);
        due("get(2, 1)", x.get(2, 1), -1);
        due("get(2, 2)", x.get(2, 2), LeaningTrees.VOID);
        due("digits(), it is not played", x.digits(), 200);
        due("play(2)", x.play(2), 2);
        due("digits()", x.digits(), 10);
        x.list(1, 9);
        due("film(1, 0) of like ones", x.film(1, 0), 0);
        due("get(1, 0)", x.get(1, 0), LeaningTrees.VOID);
        due("count(4)", x.count(4), 2);
        due("film(3, 0)", x.film(3, 0), LeaningTrees.NONE);
        due("film(-1, 0)", x.film(-1, 0), LeaningTrees.NONE);
        due("film(0, 4)", x.film(0, 4), LeaningTrees.NONE);
        due("film(0, -1)", x.film(0, -1), LeaningTrees.NONE);
        due("film(3, 1), NONE is first", x.film(3, 1), LeaningTrees.NONE);
        due("film(0, 1)", x.film(0, 1), LeaningTrees.EMPTY);
        x.nodes(4);
        due("film(0, 0)", x.film(0, 0), LeaningTrees.OTHER);
        due("count(4), a refused film() makes no list", x.count(4), 2);
        due("film(2, 0)", x.film(2, 0), LeaningTrees.OTHER);
        due("get(2, 0)", x.get(2, 0), 1);
    }

    private static void tape() {
        promise = 37;
        LeaningTrees x = new LeaningTrees();
        due("feed(32)", x.feed(32), 1);
        due("feed(126)", x.feed(126), 2);
        due("feed(31)", x.feed(31), LeaningTrees.BAD);
        due("feed(127)", x.feed(127), LeaningTrees.BAD);
        for (int letter : FAR_OUT) {
            due("feed", x.feed(letter), LeaningTrees.BAD);
        }
        for (int i = 3; i <= 60; i++) {
            due("feed(40)", x.feed(40), i);
        }
        due("feed(40)", x.feed(40), LeaningTrees.FULL);
        due("feed(31), BAD is first", x.feed(31), LeaningTrees.BAD);
        due("count(2)", x.count(2), 60);

        promise = 38;
        due("wipe()", x.wipe(), 60);
        due("wipe()", x.wipe(), 0);
        due("feed(40)", x.feed(40), 1);
        due("count(2)", x.count(2), 1);
        due("wipe()", x.wipe(), 1);
    }

    private static void texts() {
        promise = 39;
        dueRead("(..)", 1);
        dueRead("((..)(..))", 3);
        dueRead("(.(.(.(.(.(.(..)))))))", 7);
        dueRead("(((((((..).).).).).).)", 7);
        dueRead("(((..)(..))((..)(..)))", 7);
        dueRead("", -100);
        dueRead(".", -100);
        dueRead(")", -100);
        dueRead("x", -100);
        dueRead(" (..)", -100);
        dueRead("()", -101);
        dueRead("(", -101);
        dueRead("(.", -102);
        dueRead("(.)", -102);
        dueRead("(.x.)", -102);
        dueRead("(..", -103);
        dueRead("(...", -103);
        dueRead("(..(", -103);
        dueRead("(..)(..)", -104);
        dueRead("(..).", -104);
        dueRead("(..))", -104);
        dueRead("(..) ", -104);
        dueRead("((..)", -105);
        dueRead("((..))", -105);
        dueRead("((((((((", -107);
        dueRead("(((((((", -107);
        dueRead("(((((((.", -108);
        dueRead("(((..)(..))((..)(.(..))))", -118);
        dueRead("(.(.(.(.(.(.(.(..))))))))", -114);
        LeaningTrees x = new LeaningTrees();
        for (int i = 0; i < 60; i++) {
            x.feed('(');
        }
        due("read() of a full tape", x.read(), -107);
        feedAll(x, "((..).)");
        x.keep(0);
        due("read()", x.read(), 2);
        due("digits()", x.digits(), 0);
        due("shelf(0, 0)", x.shelf(0, 0), 3);
        due("off(), read() leaves no step", x.off(), LeaningTrees.STATE);

        promise = 40;
        dueText(new LeaningTrees(), "(((..).).)");
        dueText(with(1, 0), "(..)");
        dueText(with(3, 210), "(.(.(..)))");
        dueText(with(6, 30100), "(((..)((..)(..))).)");
        x = with(1, 0);
        due("written(-1)", x.written(-1), 4);
        due("written(4)", x.written(4), LeaningTrees.NONE);
        due("written(-2)", x.written(-2), LeaningTrees.NONE);
        for (int i : FAR_OUT) {
            due("written", x.written(i), LeaningTrees.NONE);
        }
        x.nodes(7);
        due("written(-1)", x.written(-1), 22);
        due("written(21)", x.written(21), ')');
        due("written(22)", x.written(22), LeaningTrees.NONE);
    }

    private static void image() {
        promise = 41;
        LeaningTrees x = with(4, 2100);
        x.keep(1);
        x.turn(0);
        due("image()", x.image(), 4);
        due("count(1), image() leaves the steps", x.count(1), 2);
        x.keep(0);
        x.lose(1);
        x.nodes(6);
        x.keep(3);
        x.list(0, 2);
        x.feed(40);
        x.turn(0);

        promise = 42;
        due("undo()", x.undo(), 4);
        due("digits()", x.digits(), 3100);
        due("count(1)", x.count(1), 0);
        due("shelf(0, 0)", x.shelf(0, 0), LeaningTrees.EMPTY);
        due("shelf(1, 2)", x.shelf(1, 2), 2100);
        due("shelf(3, 0)", x.shelf(3, 0), LeaningTrees.EMPTY);
        due("count(3)", x.count(3), 1);
        due("count(4), lists are not of the image", x.count(4), 1);
        due("count(2), the tape is not of the image", x.count(2), 1);
        x.nodes(2);
        x.keep(1);
        due("undo() again", x.undo(), 4);
        due("shelf(1, 2)", x.shelf(1, 2), 2100);
        x.nodes(2);
        due("image()", x.image(), 2);
        x.nodes(5);
        due("undo(), the later image counts", x.undo(), 2);
        x = new LeaningTrees();
        x.turn(0);
        due("undo()", x.undo(), LeaningTrees.STATE);
        due("count(1), a refused undo() leaves the steps", x.count(1), 1);
        due("digits()", x.digits(), 100);
    }

    private static void counts() {
        promise = 43;
        LeaningTrees x = with(5, 100);
        x.keep(0);
        x.keep(2);
        x.keep(3);
        x.list(0, 0);
        x.list(2, 20);
        feedAll(x, "tape");
        due("count(0)", x.count(0), 5);
        due("count(1)", x.count(1), 1);
        due("count(2)", x.count(2), 4);
        due("count(3)", x.count(3), 3);
        due("count(4)", x.count(4), 2);
        due("count(5)", x.count(5), LeaningTrees.NONE);
        due("count(-1)", x.count(-1), LeaningTrees.NONE);
        for (int what : FAR_OUT) {
            due("count", x.count(what), LeaningTrees.NONE);
        }
    }
}
