import java.util.Arrays;

/**
 * Trees of 1 to 7 nodes, turned up and back at a node, and the order that comes of it.
 *
 * Every tree is told by one number, its place in the Forest, so that the tree, the shelves, the
 * steps and the image are plain numbers and no call has to make an object.
 */
public final class LeaningTrees {
    public static final int NONE = -1, BAD = -2, STATE = -3, FULL = -4, NOT = -5, EMPTY = -6,
            OTHER = -7, MISSING = -11, PLACE = -13, BELOW = -14;
    public static final long VOID = Long.MIN_VALUE;

    private static final int MOST_NODES = 7;
    private static final int NODES_AT_FIRST = 3;
    private static final int MOST_NODES_OF_PAIRS = 6;
    private static final int NUMBER_OF_SHELVES = 4;
    /** The place of the tree without nodes: what an empty shelf holds and what a turn that can't be leads to. */
    private static final int NOTHING = 0;
    /** What refusal() answers where nothing speaks against a call; no refusal has this number. */
    private static final int FINE = 0;
    private static final int BACK_AT = 100;
    private static final int REFUSED = -100;

    private final Forest forest;
    private final Order order;
    private final Ways ways;
    private final Steps steps;
    private final Lists lists;
    private final Tape tape;
    private final int[] shelves;
    private final int[] imageShelves;
    private int imageTree;
    private int tree;

    public LeaningTrees() {
        forest = new Forest();
        order = new Order(forest);
        ways = new Ways(forest);
        steps = new Steps();
        lists = new Lists();
        tape = new Tape();
        shelves = new int[NUMBER_OF_SHELVES];
        imageShelves = new int[NUMBER_OF_SHELVES];
        imageTree = NOTHING;
        tree = forest.firstOf(NODES_AT_FIRST);
    }

    // ---- the tree

    public int nodes(int n) {
        if (!Forest.isSize(n)) {
            return BAD;
        }
        int had = size();
        tree = forest.firstOf(n);
        steps.clear();
        return had;
    }

    public int row(int digits) {
        int told = forest.findDigits(size(), digits);
        if (told == NOTHING) {
            return BAD;
        }
        return becomeAndTell(told);
    }

    public int of(int i, int what) {
        if (!isNode(i)) {
            return NONE;
        }
        switch (what) {
            case 0:
                return forest.rightSize(tree, i);
            case 1:
                return forest.parent(tree, i);
            case 2:
                return forest.leftChild(tree, i);
            case 3:
                return forest.rightChild(tree, i);
            case 4:
                return forest.leftSize(tree, i);
            case 5:
                return forest.depth(tree, i);
            default:
                return NONE;
        }
    }

    public int number(int k) {
        if (k < 0 || k >= forest.howMany(size())) {
            return NONE;
        }
        int had = forest.numberOf(tree);
        become(forest.firstOf(size()) + k);
        return had;
    }

    public int which() {
        return forest.numberOf(tree);
    }

    public int many(int n) {
        return Forest.isSize(n) ? forest.howMany(n) : BAD;
    }

    public int digits() {
        return forest.asDigits(tree);
    }

    // ---- turns

    public int turn(int c) {
        if (!isNode(c)) {
            return NONE;
        }
        int turned = forest.turnedUp(tree, c);
        return turned == NOTHING ? NOT : becomeAndTell(turned);
    }

    public int back(int c) {
        if (!isNode(c)) {
            return NONE;
        }
        int turned = forest.turnedBack(tree, c);
        return turned == NOTHING ? NOT : becomeAndTell(turned);
    }

    public int mayTurn(int what) {
        switch (what) {
            case 0:
                return Integer.bitCount(forest.leftChildren(tree));
            case 1:
                return Integer.bitCount(forest.withRightChild(tree));
            case 2:
                return forest.leftChildren(tree);
            case 3:
                return forest.withRightChild(tree);
            default:
                return NONE;
        }
    }

    public int mirror() {
        return becomeAndTell(forest.mirrored(tree));
    }

    public int off() {
        int earlier = steps.takeLatest();
        if (earlier == NOTHING) {
            return STATE;
        }
        tree = earlier;
        return steps.held();
    }

    // ---- order

    public int below(int shelf, int what) {
        int refused = refusalOfTwo(shelf, what);
        if (refused != FINE) {
            return refused;
        }
        int held = shelves[shelf];
        boolean so = what == 0 ? order.isBelow(tree, held) : order.isBelow(held, tree);
        return so ? 1 : 0;
    }

    public int meet(int shelf, int what) {
        int refused = refusalOfTwo(shelf, what);
        if (refused != FINE) {
            return refused;
        }
        return forest.numberOf(order.meetOrJoin(tree, shelves[shelf], what == 1));
    }

    public int meetAll(int what) {
        if (what < 0 || what > 1) {
            return NONE;
        }
        int all = tree;
        for (int held : shelves) {
            if (forest.sizeOf(held) == size()) {
                all = order.meetOrJoin(all, held, what == 1);
            }
        }
        return forest.numberOf(all);
    }

    public int between(int shelf, int k) {
        if (k < -1) {
            return NONE;
        }
        int refused = refusal(shelf);
        if (refused != FINE) {
            return refused;
        }
        if (k == -1) {
            return order.howManyBetween(tree, shelves[shelf]);
        }
        int found = order.nthBetween(tree, shelves[shelf], k);
        return found == NOTHING ? NONE : forest.numberOf(found);
    }

    public int way(int shelf, int what) {
        int refused = refusalOfTwo(shelf, what);
        if (refused != FINE) {
            return refused;
        }
        ways.measure(shelves[shelf]);
        int turns = ways.turnsFrom(tree);
        if (what == 0) {
            return turns;
        }
        if (turns == 0) {
            return NOT;
        }
        int told = ways.firstTurn(tree);
        return told >= 0 ? told : BACK_AT - 1 - told;
    }

    public int chain(int shelf, int what) {
        int refused = refusalOfTwo(shelf, what);
        if (refused != FINE) {
            return refused;
        }
        if (!order.isBelow(tree, shelves[shelf])) {
            return NOT;
        }
        return ways.turnsUpAlone(tree, shelves[shelf], what == 1);
    }

    public int mark(int shelf) {
        int refused = refusal(shelf);
        if (refused != FINE) {
            return REFUSED - refused;
        }
        if (!order.isBelow(tree, shelves[shelf])) {
            return REFUSED - NOT;
        }
        return order.markOf(tree, shelves[shelf]);
    }

    public int pairs(int n) {
        return Forest.isSize(n) && n <= MOST_NODES_OF_PAIRS ? order.howManyPairs(n) : BAD;
    }

    public int far(int what) {
        ways.measure(tree);
        switch (what) {
            case 0:
                return ways.farthest();
            case 1:
                return ways.howManyFarthest();
            case 2:
                return forest.numberOf(ways.leastFarthest());
            default:
                return NONE;
        }
    }

    // ---- classes

    public int canopy() {
        return forest.withRightChild(tree);
    }

    public int inClass(int set, int what) {
        if (set < 0 || set >= 1 << (size() - 1)) {
            return BAD;
        }
        switch (what) {
            case 0:
                return forest.howManyWith(size(), set);
            case 1:
                return forest.numberOf(forest.leastWith(size(), set));
            case 2:
                return forest.numberOf(forest.greatestWith(size(), set));
            default:
                return NONE;
        }
    }

    public int likeness(int shelf) {
        int refused = refusal(shelf);
        if (refused != FINE) {
            return refused;
        }
        return Integer.bitCount(forest.withRightChild(tree) ^ forest.withRightChild(shelves[shelf]));
    }

    // ---- shelves, trees set together

    public int keep(int shelf) {
        if (!isShelf(shelf)) {
            return NONE;
        }
        shelves[shelf] = tree;
        return forest.numberOf(tree);
    }

    public int lay(int shelf) {
        int refused = lack(shelf);
        if (refused != FINE) {
            return refused;
        }
        become(shelves[shelf]);
        return size();
    }

    public int lose(int shelf) {
        int refused = lack(shelf);
        if (refused != FINE) {
            return refused;
        }
        int had = forest.sizeOf(shelves[shelf]);
        shelves[shelf] = NOTHING;
        return had;
    }

    public int over(int shelf) {
        int refused = lackOrTooMany(shelf);
        if (refused != FINE) {
            return refused;
        }
        become(forest.setOver(shelves[shelf], tree));
        return size();
    }

    public int under(int shelf) {
        int refused = lackOrTooMany(shelf);
        if (refused != FINE) {
            return refused;
        }
        become(forest.setUnder(tree, shelves[shelf]));
        return size();
    }

    public int shelf(int shelf, int what) {
        if (what < 0 || what > 2) {
            return NONE;
        }
        int refused = lack(shelf);
        if (refused != FINE) {
            return refused;
        }
        switch (what) {
            case 0:
                return forest.sizeOf(shelves[shelf]);
            case 1:
                return forest.numberOf(shelves[shelf]);
            default:
                return forest.asDigits(shelves[shelf]);
        }
    }

    // ---- lists

    public int list(int list, int n) {
        if (!Lists.isList(list)) {
            return NONE;
        }
        if (n > Lists.MOST_LONGS) {
            return BAD;
        }
        if (n < Lists.ABSENT) {
            return BELOW;
        }
        lists.renew(list, n);
        return 1;
    }

    public int put(int list, int i, long v) {
        if (!Lists.isList(list)) {
            return NONE;
        }
        if (!lists.isThere(list)) {
            return MISSING;
        }
        if (!lists.isPlace(list, i)) {
            return PLACE;
        }
        lists.store(list, i, v);
        return 1;
    }

    public long get(int list, int i) {
        return lists.isPlace(list, i) ? lists.valueAt(list, i) : VOID;
    }

    public int play(int list) {
        if (!Lists.isList(list)) {
            return NONE;
        }
        if (!lists.isThere(list)) {
            return MISSING;
        }
        int length = lists.lengthOf(list);
        for (int done = 0; done < length; done++) {
            int turned = forest.turnedAsTold(tree, lists.valueAt(list, done));
            if (turned == NOTHING) {
                return done;
            }
            become(turned);
        }
        return length;
    }

    public int film(int list, int shelf) {
        if (!Lists.isList(list)) {
            return NONE;
        }
        int refused = refusal(shelf);
        if (refused != FINE) {
            return refused;
        }
        ways.measure(shelves[shelf]);
        int turns = ways.turnsFrom(tree);
        if (turns > Lists.MOST_LONGS) {
            return FULL;
        }
        lists.renew(list, turns);
        int here = tree;
        for (int i = 0; i < turns; i++) {
            int told = ways.firstTurn(here);
            lists.store(list, i, told);
            here = forest.turnedAsTold(here, told);
        }
        return turns;
    }

    // ---- texts, the image

    public int feed(int letter) {
        if (letter < 32 || letter > 126) {
            return BAD;
        }
        return tape.append(letter) ? tape.length() : FULL;
    }

    public int wipe() {
        int had = tape.length();
        tape.clear();
        return had;
    }

    public int read() {
        int fault = tape.parse();
        tape.clear();
        if (fault != Tape.NO_FAULT) {
            return REFUSED - fault;
        }
        tree = forest.find(tape.parsedNodes(), tape.parsedCode());
        steps.clear();
        return size();
    }

    public int written(int i) {
        return i == -1 ? forest.textLength(tree) : forest.textByte(tree, i);
    }

    public int image() {
        imageTree = tree;
        System.arraycopy(shelves, 0, imageShelves, 0, NUMBER_OF_SHELVES);
        return size();
    }

    public int undo() {
        if (imageTree == NOTHING) {
            return STATE;
        }
        tree = imageTree;
        System.arraycopy(imageShelves, 0, shelves, 0, NUMBER_OF_SHELVES);
        steps.clear();
        return size();
    }

    public int count(int what) {
        switch (what) {
            case 0:
                return size();
            case 1:
                return steps.held();
            case 2:
                return tape.length();
            case 3:
                return shelvesInUse();
            case 4:
                return lists.howManyThere();
            default:
                return NONE;
        }
    }

    // ---- what several calls need

    private int size() {
        return forest.sizeOf(tree);
    }

    private boolean isNode(int i) {
        return i >= 0 && i < size();
    }

    /** Telling what is so already is no step. */
    private void become(int place) {
        if (place != tree) {
            steps.add(tree);
            tree = place;
        }
    }

    private int becomeAndTell(int place) {
        become(place);
        return forest.numberOf(tree);
    }

    private static boolean isShelf(int shelf) {
        return shelf >= 0 && shelf < NUMBER_OF_SHELVES;
    }

    private int lack(int shelf) {
        if (!isShelf(shelf)) {
            return NONE;
        }
        return shelves[shelf] == NOTHING ? EMPTY : FINE;
    }

    private int lackOrTooMany(int shelf) {
        int refused = lack(shelf);
        if (refused != FINE) {
            return refused;
        }
        return size() + forest.sizeOf(shelves[shelf]) > MOST_NODES ? FULL : FINE;
    }

    private int refusal(int shelf) {
        int refused = lack(shelf);
        if (refused != FINE) {
            return refused;
        }
        return forest.sizeOf(shelves[shelf]) == size() ? FINE : OTHER;
    }

    /** Of the calls that answer two questions, 0 and 1, about a shelf's tree. */
    private int refusalOfTwo(int shelf, int what) {
        return what < 0 || what > 1 ? NONE : refusal(shelf);
    }

    private int shelvesInUse() {
        int inUse = 0;
        for (int held : shelves) {
            if (held != NOTHING) {
                inUse++;
            }
        }
        return inUse;
    }

    /**
     * All trees of 0 .. 7 nodes. A tree's place counts those of fewer nodes and those of as many
     * nodes with lesser NUMBERS. Its code is its ROW, four bits a node, b(0) the highest: codes of
     * as many nodes rise with the NUMBERS, and the highest of each four bits is always free.
     */
    private static final class Forest {
        static final int PLACES = 626;
        static final int MOST_TREES = 429;
        private static final int BITS = 4;
        private static final int ONE_NODE = 15;
        /** The place of the first tree of 0, 1, .. nodes, and the end of all places. */
        private static final int[] FIRST = {0, 1, 2, 4, 9, 23, 65, 197, 626};

        private final int[] codes;
        private final int[] sizes;

        Forest() {
            codes = new int[PLACES];
            sizes = new int[PLACES];
            int place = FIRST[1];
            for (int size = 1; size <= MOST_NODES; size++) {
                for (int right = 0; right < size; right++) {
                    place = growAll(place, size, right);
                }
            }
        }

        /**
         * A ROW is b(0), the ROW of what is right of NODE 0, and the ROW of the tree without both,
         * so going through the smaller trees by their NUMBERS makes the greater ones by theirs.
         */
        private int growAll(int from, int size, int right) {
            int rest = size - 1 - right;
            int place = from;
            for (int one = FIRST[right]; one < FIRST[right + 1]; one++) {
                int upper = ((right << BITS * right) | codes[one]) << BITS * rest;
                for (int other = FIRST[rest]; other < FIRST[rest + 1] && place < PLACES; other++) {
                    codes[place] = upper | codes[other];
                    sizes[place] = size;
                    place++;
                }
            }
            return place;
        }

        static boolean isSize(int n) {
            return n >= 1 && n <= MOST_NODES;
        }

        int firstOf(int size) {
            return isSize(size) ? FIRST[size] : NOTHING;
        }

        int lastOf(int size) {
            return isSize(size) ? FIRST[size + 1] - 1 : NOTHING;
        }

        int howMany(int size) {
            return lastOf(size) - firstOf(size) + 1;
        }

        int sizeOf(int place) {
            return place >= 0 && place < PLACES ? sizes[place] : 0;
        }

        int codeOf(int place) {
            return place >= 0 && place < PLACES ? codes[place] : 0;
        }

        int numberOf(int place) {
            return place - firstOf(sizeOf(place));
        }

        /** NOTHING, if the code is no tree's. */
        int find(int size, int code) {
            int last = lastOf(size);
            int place = firstOf(size);
            for (int step = 256; step > 0; step >>= 1) {
                if (place + step <= last && codeOf(place + step) <= code) {
                    place += step;
                }
            }
            return codeOf(place) == code ? place : NOTHING;
        }

        /** NOTHING, if the digits are no tree's; a digit fits into the four bits of its node. */
        int findDigits(int size, int digits) {
            if (digits < 0) {
                return NOTHING;
            }
            int code = 0;
            int rest = digits;
            for (int i = 0; i < size; i++) {
                code |= (rest % 10) << BITS * i;
                rest /= 10;
            }
            return rest == 0 ? find(size, code) : NOTHING;
        }

        int asDigits(int place) {
            int digits = 0;
            for (int i = 0; i < sizeOf(place); i++) {
                digits = digits * 10 + rightSize(place, i);
            }
            return digits;
        }

        static int digitOf(int code, int size, int i) {
            return (code >> BITS * (size - 1 - i)) & ONE_NODE;
        }

        static int digitAt(int value, int size, int i) {
            return value << BITS * (size - 1 - i);
        }

        // ---- one node

        int rightSize(int place, int i) {
            if (place < 0 || place >= PLACES) {
                return 0;
            }
            return (codes[place] >> BITS * (sizes[place] - 1 - i)) & ONE_NODE;
        }

        /** The last NODE of what hangs at a NODE. */
        int end(int place, int i) {
            return i + rightSize(place, i);
        }

        int leftSize(int place, int i) {
            int size = 0;
            for (int j = i - 1; j >= 0 && end(place, j) < i; j--) {
                size++;
            }
            return size;
        }

        /** What hangs at a NODE is just right of its parent, or else just left of it. */
        int parent(int place, int i) {
            int end = end(place, i);
            int ahead = i - leftSize(place, i) - 1;
            if (ahead >= 0 && end(place, ahead) == end) {
                return ahead;
            }
            return end + 1 < sizeOf(place) ? end + 1 : NOT;
        }

        /** A right child ends where its parent does, ahead of it; a left child's parent is just behind its end. */
        boolean isLeftChild(int place, int c) {
            int end = end(place, c);
            if (end + 1 >= sizeOf(place)) {
                return false;
            }
            for (int j = 0; j < c; j++) {
                if (end(place, j) == end) {
                    return false;
                }
            }
            return true;
        }

        int leftChild(int place, int i) {
            return top(place, i - leftSize(place, i), i - 1);
        }

        int rightChild(int place, int i) {
            return top(place, i + 1, end(place, i));
        }

        /** Of the NODES of a subtree those that end where it does go down to the right, the top first. */
        private int top(int place, int from, int to) {
            for (int j = from; j <= to; j++) {
                if (end(place, j) == to) {
                    return j;
                }
            }
            return NOT;
        }

        int depth(int place, int i) {
            int depth = 0;
            for (int j = 0; j < sizeOf(place); j++) {
                if (j != i && j - leftSize(place, j) <= i && i <= end(place, j)) {
                    depth++;
                }
            }
            return depth;
        }

        // ---- turns

        /** NOTHING, if the NODE is no left child. */
        int turnedUp(int place, int c) {
            if (!isLeftChild(place, c)) {
                return NOTHING;
            }
            int size = sizeOf(place);
            int parent = end(place, c) + 1;
            return find(size, codeOf(place) + digitAt(1 + rightSize(place, parent), size, c));
        }

        /** NOTHING, if the NODE has no right child. */
        int turnedBack(int place, int c) {
            int child = top(place, c + 1, end(place, c));
            if (child == NOT) {
                return NOTHING;
            }
            int size = sizeOf(place);
            return find(size, codeOf(place) - digitAt(1 + rightSize(place, child), size, c));
        }

        /** The turn that a number of a list tells; NOTHING, if it can't be. */
        int turnedAsTold(int place, long told) {
            int size = sizeOf(place);
            if (told >= size || told < -size) {
                return NOTHING;
            }
            return told >= 0 ? turnedUp(place, (int) told) : turnedBack(place, (int) (-1 - told));
        }

        int leftChildren(int place) {
            int bits = 0;
            for (int i = 0; i < sizeOf(place); i++) {
                if (isLeftChild(place, i)) {
                    bits |= 1 << i;
                }
            }
            return bits;
        }

        /** The last NODE never has a right child, so this is the CANOPY too. */
        int withRightChild(int place) {
            int bits = 0;
            int code = codeOf(place);
            for (int i = sizeOf(place); i > 0; i--) {
                bits = (bits << 1) | ((code & ONE_NODE) > 0 ? 1 : 0);
                code >>= BITS;
            }
            return bits;
        }

        // ---- classes

        int howManyWith(int size, int canopy) {
            int found = 0;
            for (int place = firstOf(size); place <= lastOf(size); place++) {
                if (withRightChild(place) == canopy) {
                    found++;
                }
            }
            return found;
        }

        int leastWith(int size, int canopy) {
            for (int place = firstOf(size); place <= lastOf(size); place++) {
                if (withRightChild(place) == canopy) {
                    return place;
                }
            }
            return NOTHING;
        }

        int greatestWith(int size, int canopy) {
            for (int place = lastOf(size); place >= firstOf(size); place--) {
                if (withRightChild(place) == canopy) {
                    return place;
                }
            }
            return NOTHING;
        }

        // ---- trees made of trees

        int mirrored(int place) {
            int size = sizeOf(place);
            int code = 0;
            for (int i = 0; i < size; i++) {
                code |= digitAt(leftSize(place, i), size, size - 1 - i);
            }
            return find(size, code);
        }

        /** What comes in left of the first NODE is right of no NODE, so both ROWS stay. */
        int setOver(int one, int other) {
            return sideBySide(codeOf(one), one, other);
        }

        /** What comes in right of the last NODE is right of all NODES whose right side it ends. */
        int setUnder(int one, int other) {
            int size = sizeOf(one);
            int code = codeOf(one);
            for (int i = 0; i < size; i++) {
                if (end(one, i) == size - 1) {
                    code += digitAt(sizeOf(other), size, i);
                }
            }
            return sideBySide(code, one, other);
        }

        private int sideBySide(int code, int one, int other) {
            return find(sizeOf(one) + sizeOf(other), (code << BITS * sizeOf(other)) | codeOf(other));
        }

        // ---- texts

        int textLength(int place) {
            return 3 * sizeOf(place) + 1;
        }

        /**
         * NONE, if there is no such byte. The dots stand around the NODES in their order, dot k
         * ahead of NODE k; a NODE opens ahead of the first dot of what hangs at it and closes
         * behind the last one.
         */
        int textByte(int place, int i) {
            if (i < 0) {
                return NONE;
            }
            int at = 0;
            for (int dot = 0; dot <= sizeOf(place); dot++) {
                at += opening(place, dot);
                if (i < at) {
                    return '(';
                }
                if (i == at) {
                    return '.';
                }
                at += 1 + closing(place, dot);
                if (i < at) {
                    return ')';
                }
            }
            return NONE;
        }

        private int opening(int place, int dot) {
            int found = 0;
            for (int i = dot; i < sizeOf(place); i++) {
                if (i - leftSize(place, i) == dot) {
                    found++;
                }
            }
            return found;
        }

        private int closing(int place, int dot) {
            int found = 0;
            for (int i = 0; i < dot; i++) {
                if (end(place, i) + 1 == dot) {
                    found++;
                }
            }
            return found;
        }
    }

    /** What is BELOW what; both trees of a question have as many nodes. */
    private static final class Order {
        /** The free bit of each node's four. */
        private static final int FREE_BITS = 0x8888888;

        private final Forest forest;
        /** The trees whose MARK is not 0, and their MARKS; made once, so that no call makes rows. */
        private final int[] markedCodes;
        private final int[] marks;

        Order(Forest forest) {
            this.forest = forest;
            markedCodes = new int[Forest.MOST_TREES];
            marks = new int[Forest.MOST_TREES];
        }

        /** All nodes at once: a free bit goes just where the lower one has more than the upper one. */
        private static boolean noMore(int lower, int upper) {
            return (((upper | FREE_BITS) - lower) & FREE_BITS) == FREE_BITS;
        }

        boolean isBelow(int lower, int upper) {
            return noMore(forest.codeOf(lower), forest.codeOf(upper));
        }

        private static boolean isWithin(int lowerCode, int code, int upperCode) {
            return noMore(lowerCode, code) && noMore(code, upperCode);
        }

        int meetOrJoin(int one, int other, boolean join) {
            return join ? joinOf(one, other) : meetOf(one, other);
        }

        /** The lesser of each b of two ROWS is always a ROW. */
        private int meetOf(int one, int other) {
            int size = forest.sizeOf(one);
            int code = 0;
            for (int i = 0; i < size; i++) {
                int least = Math.min(forest.rightSize(one, i), forest.rightSize(other, i));
                code |= Forest.digitAt(least, size, i);
            }
            return forest.find(size, code);
        }

        /**
         * The greater of each b need not be a ROW: what is right of a NODE must hold all that is
         * right of the NODES there. From the last NODE on, those behind a NODE are settled already.
         */
        private int joinOf(int one, int other) {
            int size = forest.sizeOf(one);
            int code = 0;
            for (int i = size - 1; i >= 0; i--) {
                int end = Math.max(forest.end(one, i), forest.end(other, i));
                for (int j = i + 1; j < size && j <= end; j++) {
                    end = Math.max(end, j + Forest.digitOf(code, size, j));
                }
                code |= Forest.digitAt(end - i, size, i);
            }
            return forest.find(size, code);
        }

        /** A tree BELOW another has no greater NUMBER, so what is BETWEEN stands from one to the other. */
        int howManyBetween(int lower, int upper) {
            int lowerCode = forest.codeOf(lower);
            int upperCode = forest.codeOf(upper);
            int found = 0;
            for (int place = lower; place <= upper; place++) {
                if (isWithin(lowerCode, forest.codeOf(place), upperCode)) {
                    found++;
                }
            }
            return found;
        }

        /** NOTHING, if there are not so many. */
        int nthBetween(int lower, int upper, int nth) {
            int lowerCode = forest.codeOf(lower);
            int upperCode = forest.codeOf(upper);
            int ahead = 0;
            for (int place = lower; place <= upper; place++) {
                if (isWithin(lowerCode, forest.codeOf(place), upperCode)) {
                    if (ahead == nth) {
                        return place;
                    }
                    ahead++;
                }
            }
            return NOTHING;
        }

        /** The first one must be BELOW the second. Marks of 0 add nothing, so they are not held. */
        int markOf(int lower, int upper) {
            int lowerCode = forest.codeOf(lower);
            int upperCode = forest.codeOf(upper);
            int held = 0;
            int mark = 0;
            for (int place = lower; place <= upper; place++) {
                int code = forest.codeOf(place);
                if (!isWithin(lowerCode, code, upperCode)) {
                    continue;
                }
                mark = place == lower ? 1 : -sumBelow(code, held);
                if (mark != 0 && held < Forest.MOST_TREES) {
                    markedCodes[held] = code;
                    marks[held] = mark;
                    held++;
                }
            }
            return mark;
        }

        private int sumBelow(int code, int held) {
            int sum = 0;
            for (int i = 0; i < held && i < Forest.MOST_TREES; i++) {
                if (noMore(markedCodes[i], code)) {
                    sum += marks[i];
                }
            }
            return sum;
        }

        int howManyPairs(int size) {
            int last = forest.lastOf(size);
            int found = 0;
            for (int lower = forest.firstOf(size); lower <= last; lower++) {
                int lowerCode = forest.codeOf(lower);
                for (int upper = lower; upper <= last; upper++) {
                    if (noMore(lowerCode, forest.codeOf(upper))) {
                        found++;
                    }
                }
            }
            return found;
        }
    }

    /** Turns one behind the other, from a tree to another one of as many nodes. */
    private static final class Ways {
        private static final int UNSEEN = -1;

        private final Forest forest;
        /** Where each turn of each tree leads, seven to a tree; learned when a size is first asked for. */
        private final int[] ups;
        private final int[] backs;
        private final boolean[] learned;
        /** How many turns each tree is from the measured one. */
        private final int[] turns;
        private final int[] queue;
        private final int[] turnsUp;
        private int queued;
        private int measured;

        Ways(Forest forest) {
            this.forest = forest;
            ups = new int[Forest.PLACES * MOST_NODES];
            backs = new int[Forest.PLACES * MOST_NODES];
            learned = new boolean[MOST_NODES + 1];
            turns = new int[Forest.PLACES];
            queue = new int[Forest.MOST_TREES];
            turnsUp = new int[Forest.PLACES];
            measured = NOTHING;
        }

        private static boolean isTree(int place) {
            return place > NOTHING && place < Forest.PLACES;
        }

        private static int turnPlace(int place, int c) {
            return place * MOST_NODES + c;
        }

        /** A turn back only undoes a turn up at the same node, so one search finds both. */
        private void learn(int size) {
            if (!Forest.isSize(size) || learned[size]) {
                return;
            }
            for (int place = forest.firstOf(size); place <= forest.lastOf(size); place++) {
                for (int c = 0; c < size; c++) {
                    int turned = forest.turnedUp(place, c);
                    if (isTree(turned)) {
                        ups[turnPlace(place, c)] = turned;
                        backs[turnPlace(turned, c)] = place;
                    }
                }
            }
            learned[size] = true;
        }

        /** Spreads out from a tree; a way has as many turns from its end, so this serves ways to it too. */
        void measure(int goal) {
            if (goal == measured || !isTree(goal)) {
                return;
            }
            int size = forest.sizeOf(goal);
            learn(size);
            Arrays.fill(turns, UNSEEN);
            queued = 0;
            reach(goal, 0);
            for (int at = 0; at < queued && at < Forest.MOST_TREES; at++) {
                int here = queue[at];
                for (int c = 0; c < size; c++) {
                    reach(ups[turnPlace(here, c)], turns[here] + 1);
                    reach(backs[turnPlace(here, c)], turns[here] + 1);
                }
            }
            measured = goal;
        }

        private void reach(int place, int after) {
            if (isTree(place) && turns[place] == UNSEEN && queued < Forest.MOST_TREES) {
                turns[place] = after;
                queue[queued] = place;
                queued++;
            }
        }

        /** From a tree to the measured one. */
        int turnsFrom(int place) {
            return isTree(place) ? turns[place] : UNSEEN;
        }

        /** Toward the measured tree, as lists tell turns; NOT, if the tree is that one already. */
        int firstTurn(int from) {
            if (!isTree(from) || turns[from] <= 0) {
                return NOT;
            }
            int left = turns[from] - 1;
            int size = forest.sizeOf(from);
            for (int c = 0; c < size; c++) {
                if (turnsFrom(ups[turnPlace(from, c)]) == left) {
                    return c;
                }
            }
            for (int c = 0; c < size; c++) {
                if (turnsFrom(backs[turnPlace(from, c)]) == left) {
                    return -1 - c;
                }
            }
            return NOT;
        }

        int farthest() {
            int farthest = 0;
            for (int place = 0; place < Forest.PLACES; place++) {
                farthest = Math.max(farthest, turns[place]);
            }
            return farthest;
        }

        int howManyFarthest() {
            int farthest = farthest();
            int found = 0;
            for (int place = 0; place < Forest.PLACES; place++) {
                if (turns[place] == farthest) {
                    found++;
                }
            }
            return found;
        }

        int leastFarthest() {
            int farthest = farthest();
            for (int place = 0; place < Forest.PLACES; place++) {
                if (turns[place] == farthest) {
                    return place;
                }
            }
            return NOTHING;
        }

        /** Each turn up leads to a greater NUMBER, so what leads to a tree is known ahead of it. */
        int turnsUpAlone(int from, int goal, boolean most) {
            if (!isTree(from) || !isTree(goal)) {
                return NOT;
            }
            int size = forest.sizeOf(from);
            learn(size);
            Arrays.fill(turnsUp, UNSEEN);
            turnsUp[from] = 0;
            for (int here = from; here < goal; here++) {
                for (int c = 0; c < size && turnsUp[here] != UNSEEN; c++) {
                    improve(ups[turnPlace(here, c)], turnsUp[here] + 1, most);
                }
            }
            return turnsUp[goal];
        }

        private void improve(int place, int offered, boolean most) {
            if (!isTree(place)) {
                return;
            }
            int had = turnsUp[place];
            if (had == UNSEEN || (most ? offered > had : offered < had)) {
                turnsUp[place] = offered;
            }
        }
    }

    /** The trees that can be brought back, the latest last. */
    private static final class Steps {
        private static final int MOST = 10;

        private final int[] trees;
        private int held;

        Steps() {
            trees = new int[MOST];
        }

        void add(int place) {
            if (held >= MOST) {
                System.arraycopy(trees, 1, trees, 0, MOST - 1);
                held = MOST - 1;
            }
            trees[held] = place;
            held++;
        }

        int takeLatest() {
            if (held <= 0) {
                return NOTHING;
            }
            held--;
            return trees[held];
        }

        void clear() {
            held = 0;
        }

        int held() {
            return held;
        }
    }

    private static final class Lists {
        static final int MOST_LONGS = 20;
        static final int ABSENT = -1;
        private static final int NUMBER = 3;

        private final long[][] longs;
        private final int[] lengths;

        Lists() {
            longs = new long[NUMBER][MOST_LONGS];
            lengths = new int[NUMBER];
            Arrays.fill(lengths, ABSENT);
        }

        static boolean isList(int list) {
            return list >= 0 && list < NUMBER;
        }

        int lengthOf(int list) {
            return isList(list) ? lengths[list] : ABSENT;
        }

        boolean isThere(int list) {
            return lengthOf(list) != ABSENT;
        }

        boolean isPlace(int list, int i) {
            return i >= 0 && i < lengthOf(list);
        }

        void renew(int list, int length) {
            if (isList(list) && length >= ABSENT && length <= MOST_LONGS) {
                Arrays.fill(longs[list], 0L);
                lengths[list] = length;
            }
        }

        void store(int list, int i, long value) {
            if (isPlace(list, i)) {
                longs[list][i] = value;
            }
        }

        long valueAt(int list, int i) {
            return isPlace(list, i) ? longs[list][i] : VOID;
        }

        int howManyThere() {
            int there = 0;
            for (int length : lengths) {
                if (length != ABSENT) {
                    there++;
                }
            }
            return there;
        }
    }

    /** The bytes fed, and the tree that they tell. */
    private static final class Tape {
        static final int NO_FAULT = -1;
        private static final int MOST_BYTES = 60;
        /** What an open node waits for. */
        private static final int LEFT = 0, RIGHT = 1, CLOSE = 2;

        private final int[] bytes;
        private int length;
        private final int[] awaited;
        private final int[] openNodes;
        private final int[] rightSizes;
        private int open;
        private int opened;
        private int numbered;

        Tape() {
            bytes = new int[MOST_BYTES];
            awaited = new int[MOST_NODES];
            openNodes = new int[MOST_NODES];
            rightSizes = new int[MOST_NODES];
        }

        int length() {
            return length;
        }

        void clear() {
            length = 0;
        }

        boolean append(int letter) {
            if (length >= MOST_BYTES) {
                return false;
            }
            bytes[length] = letter;
            length++;
            return true;
        }

        /** The place of the fault, or NO_FAULT. */
        int parse() {
            open = 0;
            opened = 0;
            numbered = 0;
            for (int i = 0; i < length && i < MOST_BYTES; i++) {
                if (!accepts(bytes[i])) {
                    return i;
                }
            }
            return isWhole() ? NO_FAULT : length;
        }

        int parsedNodes() {
            return numbered;
        }

        int parsedCode() {
            int code = 0;
            for (int i = 0; i < numbered && i < MOST_NODES; i++) {
                code |= Forest.digitAt(rightSizes[i], numbered, i);
            }
            return code;
        }

        private boolean isWhole() {
            return opened > 0 && open == 0;
        }

        private boolean accepts(int letter) {
            switch (letter) {
                case '(':
                    return opensNode();
                case '.':
                    return staysNothing();
                case ')':
                    return closesNode();
                default:
                    return false;
            }
        }

        private int awaitedNow() {
            return open > 0 && open <= MOST_NODES ? awaited[open - 1] : CLOSE;
        }

        private boolean opensNode() {
            boolean first = opened == 0;
            if (opened >= MOST_NODES || open >= MOST_NODES || !first && awaitedNow() == CLOSE) {
                return false;
            }
            awaited[open] = LEFT;
            open++;
            opened++;
            return true;
        }

        private boolean staysNothing() {
            if (awaitedNow() == CLOSE) {
                return false;
            }
            endSubtree();
            return true;
        }

        private boolean closesNode() {
            if (open <= 0 || open > MOST_NODES || awaited[open - 1] != CLOSE) {
                return false;
            }
            open--;
            int node = openNodes[open];
            if (node >= 0 && node < MOST_NODES) {
                rightSizes[node] = numbered - node - 1;
            }
            endSubtree();
            return true;
        }

        /** Behind its left subtree all nodes ahead of a node are numbered, so its turn has come. */
        private void endSubtree() {
            if (open <= 0 || open > MOST_NODES) {
                return;
            }
            int top = open - 1;
            if (awaited[top] == LEFT) {
                awaited[top] = RIGHT;
                openNodes[top] = numbered;
                numbered++;
            } else {
                awaited[top] = CLOSE;
            }
        }
    }
}
