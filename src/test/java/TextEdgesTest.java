import java.util.HashSet;
import java.util.Set;

/** The sentences of promises 37 to 43, and of the terms about texts and the image, that name a boundary. */
public final class TextEdgesTest {
    private TextEdgesTest() {
    }

    public static void main(String[] args) {
        Edges.run(TextEdgesTest.class);
    }

    private static LeaningTrees fed(String text) {
        LeaningTrees x = Edges.tree(4, 1010);
        Edges.feedAll(x, text);
        return x;
    }

    private static LeaningTrees fedTimes(int letter, int times) {
        LeaningTrees x = new LeaningTrees();
        for (int i = 0; i < times; i++) {
            x.feed(letter);
        }
        return x;
    }

    /** What is wrong with a text is answered, THE TREE and its steps stay, and the tape is empty. */
    private static void fault(String text, int place) {
        LeaningTrees x = fed(text);
        Edges.due("read() of " + text, x.read(), -100 - place);
        Edges.due("count(0) behind " + text, x.count(0), 4);
        Edges.due("digits() behind " + text, x.digits(), 1010);
        Edges.due("count(1) behind " + text, x.count(1), 1);
        Edges.due("count(2) behind " + text, x.count(2), 0);
    }

    // ---- 37 feed

    @Edges.Says(promise = 37, words = "A byte (32 .. 126) comes behind THE TAPE's: how many it has.")
    private static void feedOfEachByte() {
        for (int letter = 32; letter <= 126; letter++) {
            LeaningTrees x = new LeaningTrees();
            Edges.due("feed(" + letter + ")", x.feed(letter), 1);
            Edges.due("feed(" + letter + ")", x.feed(letter), 2);
            Edges.due("count(2)", x.count(2), 2);
        }
    }

    @Edges.Says(promise = 37, words = "BAD; FULL.")
    private static void feedOfNoByteIsBadAheadOfFull() {
        Edges.takes("feed", LeaningTrees::new, LeaningTrees::feed, 32, 126, Edges.BAD);
        for (int letter : new int[] {31, 127, 0, -1, 128, 40 + 256, 40 - 256, Integer.MIN_VALUE, Integer.MAX_VALUE}) {
            LeaningTrees x = fedTimes(40, 60);
            Edges.due("feed(" + letter + ") of a full TAPE", x.feed(letter), Edges.BAD);
            Edges.due("count(2)", x.count(2), 60);
            x = fedTimes(40, 3);
            Edges.due("feed(" + letter + ")", x.feed(letter), Edges.BAD);
            Edges.due("count(2)", x.count(2), 3);
        }
    }

    @Edges.Says(promise = 37, words = "FULL.")
    private static void theSixtyFirstByteDoesNotFit() {
        LeaningTrees x = new LeaningTrees();
        for (int i = 1; i <= 60; i++) {
            Edges.due("feed(126), the " + i + "th", x.feed(126), i);
        }
        Edges.due("feed(126), the 61st", x.feed(126), Edges.FULL);
        Edges.due("feed(32)", x.feed(32), Edges.FULL);
        Edges.due("count(2)", x.count(2), 60);
        x.wipe();
        Edges.due("feed(32) behind wipe()", x.feed(32), 1);
    }

    // ---- 38 wipe

    @Edges.Says(promise = 38, words = "THE TAPE is empty: how many it had.")
    private static void wipeOfEachLength() {
        for (int length = 0; length <= 60; length++) {
            LeaningTrees x = fedTimes('(', length);
            Edges.due("wipe() of " + length, x.wipe(), length);
            Edges.due("count(2)", x.count(2), 0);
            Edges.due("wipe() again", x.wipe(), 0);
            Edges.feedAll(x, "(..)");
            Edges.due("read(), nothing of what was is left", x.read(), 1);
        }
    }

    // ---- 39 read

    @Edges.Says(promise = 39, words = "THE TAPE is a TEXT, THE TREE is that: NODES")
    private static void readOfTheShortestAndTheLongest() {
        String left = ".";
        String right = ".";
        for (int n = 1; n <= 7; n++) {
            left = "(" + left + ".)";
            right = "(." + right + ")";
            LeaningTrees x = fed(left);
            Edges.due("read() of " + left, x.read(), n);
            Edges.due("count(0)", x.count(0), n);
            Edges.due("digits()", x.digits(), 0);
            x = fed(right);
            Edges.due("read() of " + right, x.read(), n);
            Edges.due("digits()", x.digits(), Edges.GREATEST[n]);
        }
    }

    @Edges.Says(promise = 39, words = "-100 less the FAULT.")
    private static void faultsAtTheFirstPlace() {
        fault(")", 0);
        fault("x", 0);
        fault(" (..)", 0);
        fault("x(..)", 0);
        for (int letter = 32; letter <= 126; letter++) {
            if (letter != '(') {
                fault((char) letter + "(..)", 0);
            }
        }
    }

    @Edges.Says(words = "the place (from 0) of the first byte with which no TEXT goes on")
    private static void noTextGoesOnWithAnotherByte() {
        for (int letter = 32; letter <= 126; letter++) {
            char other = (char) letter;
            if (other != '(' && other != '.') {
                fault("(" + other + ".)", 1);
                fault("(." + other + ")", 2);
            }
            if (other != ')') {
                fault("(.." + other, 3);
                fault("((..)(..)" + other, 9);
            }
            fault("(..)" + other, 4);
        }
        fault("((..))", 5);
        fault("(.(..))(", 7);
        fault("(..)(..)", 4);
    }

    @Edges.Says(words = "of a \".\" of a TREE that would be nothing in all")
    private static void nothingInAllIsAFault() {
        fault(".", 0);
        fault("..", 0);
        fault(".(..)", 0);
    }

    @Edges.Says(words = "of the eighth \"(\"")
    private static void theEighthNodeIsAFault() {
        fault("((((((((", 7);
        fault("((((((((..).).).).).).).)", 7);
        fault("(.(.(.(.(.(.(.(..))))))))", 14);
        fault("(((((((..).).).).).).(..))", 21);
        fault("(((..)(..))((..)(.(..))))", 18);
        LeaningTrees x = fedTimes('(', 60);
        Edges.due("read() of sixty (", x.read(), -107);
    }

    @Edges.Says(words = "the length, if it ends too early")
    private static void textsThatEndTooEarly() {
        fault("", 0);
        String[] texts = {"(..)", "(((((((..).).).).).).)", "(.(.(.(.(.(.(..)))))))", "(((..)(..))((..)(..)))"};
        for (String text : texts) {
            for (int length = 1; length < text.length(); length++) {
                fault(text.substring(0, length), length);
            }
            Edges.due("read() of the whole", fed(text).read() > 0 ? 1 : 0, 1);
        }
    }

    @Edges.Says(words = "\".\" is nothing, \"(\" left subtree, right subtree, \")\" a NODE with these")
    private static void allTextsOfFourSignsUpToTenBytes() {
        Set<String> texts = new HashSet<>();
        Set<String> beginnings = new HashSet<>();
        for (int n = 1; n <= 7; n++) {
            for (int k = 0; k < Edges.MANY[n]; k++) {
                LeaningTrees x = Edges.tree(n, 0);
                x.number(k);
                String text = Edges.written(x);
                texts.add(text);
                for (int i = 0; i <= text.length(); i++) {
                    beginnings.add(text.substring(0, i));
                }
            }
        }
        Edges.due("all TEXTS differ", texts.size(), 1 + 2 + 5 + 14 + 42 + 132 + 429);
        for (String begun : beginnings) {
            for (char next : new char[] {'.', '(', ')', 'x'}) {
                String text = begun + next;
                int want = texts.contains(text) ? (text.length() - 1) / 3
                        : -100 - (beginnings.contains(text) ? text.length() : begun.length());
                LeaningTrees x = new LeaningTrees();
                Edges.feedAll(x, text);
                Edges.due("read() of " + text, x.read(), want);
                if (want > 0) {
                    Edges.dueText("written", Edges.written(x), text);
                }
            }
        }
    }

    @Edges.Says(words = "nodes() and read(), where they are not refused, and undo() leave none.")
    private static void readLeavesNoStepsIfItIsNotRefused() {
        LeaningTrees x = fed("(..");
        x.read();
        Edges.due("count(1) behind a refused read()", x.count(1), 1);
        Edges.feedAll(x, "((..)(.(..)))");
        Edges.due("read()", x.read(), 4);
        Edges.due("digits()", x.digits(), 210);
        Edges.due("count(1)", x.count(1), 0);
        Edges.due("off()", x.off(), Edges.STATE);
        x.number(1);
        x.number(x.which() + 1);
        Edges.feedAll(x, Edges.written(x));
        Edges.due("read() of what is so already", x.read(), 4);
        Edges.due("count(1) behind it", x.count(1), 0);
    }

    @Edges.Says(words = "but THE TAPE, which is empty behind each read()")
    private static void theTapeIsEmptyBehindEachRead() {
        for (String text : new String[] {"", "(..)", "(", ")", "(..)x", "((((((((", "."}) {
            LeaningTrees x = fed(text);
            x.read();
            Edges.due("count(2) behind " + text, x.count(2), 0);
            Edges.due("wipe() behind " + text, x.wipe(), 0);
            Edges.feedAll(x, "((..).)");
            Edges.due("read() behind " + text, x.read(), 2);
        }
        LeaningTrees x = fedTimes(')', 60);
        Edges.due("read() of a full TAPE", x.read(), -100);
        Edges.due("count(2)", x.count(2), 0);
        Edges.due("feed(40)", x.feed(40), 1);
    }

    @Edges.Says(promise = 39, words = "THE TREE is that")
    private static void readLeavesShelvesAndLists() {
        LeaningTrees x = fed("(..)");
        x.keep(3);
        Edges.putAll(x, 1, 8, 9);
        Edges.due("read()", x.read(), 1);
        Edges.due("shelf(3, 2)", x.shelf(3, 2), 1010);
        Edges.due("get(1, 1)", x.get(1, 1), 9);
        Edges.due("undo(), read() takes no image", x.undo(), Edges.STATE);
    }

    // ---- 40 written

    @Edges.Says(promise = 40, words = "Byte i of WRITTEN; i -1: how many.")
    private static void writtenOfTheLeastAndTheGreatest() {
        String left = ".";
        String right = ".";
        for (int n = 1; n <= 7; n++) {
            left = "(" + left + ".)";
            right = "(." + right + ")";
            LeaningTrees x = Edges.tree(n, 0);
            Edges.due("written(-1) of " + n, x.written(-1), 3 * n + 1);
            Edges.due("written(0)", x.written(0), '(');
            Edges.due("written of the last", x.written(3 * n), ')');
            Edges.dueText("written", Edges.written(x), left);
            x.mirror();
            Edges.due("written(-1)", x.written(-1), 3 * n + 1);
            Edges.dueText("written", Edges.written(x), right);
        }
    }

    @Edges.Says(promise = 40, words = "NONE.")
    private static void writtenOfNoByte() {
        for (int n = 1; n <= 7; n++) {
            int nodes = n;
            Edges.takes("written of " + n, () -> Edges.tree(nodes, 0), LeaningTrees::written, -1, 3 * n, Edges.NONE);
            Edges.takes("written of the greatest of " + n, () -> Edges.tree(nodes, Edges.GREATEST[nodes]), LeaningTrees::written,
                    -1, 3 * n, Edges.NONE);
        }
    }

    // ---- 41, 42 image, undo

    @Edges.Says(promise = 41, words = "THE IMAGE is taken: NODES.")
    private static void imageOfEachSize() {
        for (int n = 1; n <= 7; n++) {
            LeaningTrees x = Edges.tree(n, Edges.GREATEST[n]);
            int steps = x.count(1);
            Edges.due("image()", x.image(), n);
            Edges.due("digits()", x.digits(), Edges.GREATEST[n]);
            Edges.due("count(1), image() leaves STEPS", x.count(1), steps);
            x.nodes(8 - n);
            Edges.due("undo()", x.undo(), n);
            Edges.due("digits()", x.digits(), Edges.GREATEST[n]);
        }
    }

    @Edges.Says(promise = 41, words = "THE IMAGE is taken")
    private static void theLaterImageCounts() {
        LeaningTrees x = Edges.tree(5, 10);
        x.keep(0);
        x.image();
        x.lose(0);
        x.nodes(2);
        x.keep(1);
        Edges.due("image()", x.image(), 2);
        x.nodes(6);
        x.lose(1);
        x.keep(2);
        Edges.due("undo()", x.undo(), 2);
        Edges.due("shelf(0, 0)", x.shelf(0, 0), Edges.EMPTY);
        Edges.due("shelf(1, 0)", x.shelf(1, 0), 2);
        Edges.due("shelf(2, 0)", x.shelf(2, 0), Edges.EMPTY);
    }

    @Edges.Says(promise = 42, words = "All is as THE IMAGE: NODES.")
    private static void undoBringsTheTreeAndAllShelvesBack() {
        LeaningTrees x = new LeaningTrees();
        for (int shelf = 0; shelf <= 3; shelf += 2) {
            x.nodes(4 + shelf);
            x.keep(shelf);
        }
        x.nodes(7);
        x.row(10);
        x.image();
        for (int shelf = 0; shelf <= 3; shelf++) {
            x.keep(shelf);
        }
        x.lose(0);
        x.nodes(1);
        Edges.due("undo()", x.undo(), 7);
        Edges.due("digits()", x.digits(), 10);
        int[] held = {4, Edges.EMPTY, 6, Edges.EMPTY};
        for (int shelf = 0; shelf <= 3; shelf++) {
            Edges.due("shelf(" + shelf + ", 0)", x.shelf(shelf, 0), held[shelf]);
        }
        Edges.due("count(3)", x.count(3), 2);
    }

    @Edges.Says(promise = 42, words = "STATE: there is none.")
    private static void undoWithoutAnImage() {
        LeaningTrees x = Edges.tree(4, 2100);
        x.keep(1);
        Edges.due("undo()", x.undo(), Edges.STATE);
        Edges.due("digits()", x.digits(), 2100);
        Edges.due("count(1)", x.count(1), 1);
        Edges.due("count(3)", x.count(3), 1);
        Edges.due("undo() again", x.undo(), Edges.STATE);
        x.image();
        Edges.due("undo() behind image()", x.undo(), 4);
    }

    /** The document does not say that an image is used up: all is as it, so it is still there. */
    @Edges.Says(promise = 42, words = "All is as THE IMAGE")
    private static void undoCanBeAskedAgain() {
        LeaningTrees x = Edges.tree(4, 2100);
        x.image();
        x.nodes(2);
        x.keep(0);
        Edges.due("undo()", x.undo(), 4);
        x.nodes(3);
        x.keep(1);
        Edges.due("undo() again", x.undo(), 4);
        Edges.due("digits()", x.digits(), 2100);
        Edges.due("count(3)", x.count(3), 0);
    }

    @Edges.Says(words = "nodes() and read(), where they are not refused, and undo() leave none.")
    private static void undoLeavesNoSteps() {
        LeaningTrees x = Edges.tree(4, 2100);
        x.image();
        x.number(1);
        x.number(2);
        Edges.due("undo()", x.undo(), 4);
        Edges.due("count(1)", x.count(1), 0);
        Edges.due("off()", x.off(), Edges.STATE);
        Edges.due("digits()", x.digits(), 2100);
        x.number(1);
        x.number(8);
        Edges.due("undo() of what is so already", x.undo(), 4);
        Edges.due("count(1)", x.count(1), 0);
    }

    @Edges.Says(words = "THE IMAGE: THE TREE, SHELVES (not LISTS, THE TAPE).")
    private static void listsAndTheTapeAreNotOfTheImage() {
        LeaningTrees x = new LeaningTrees();
        x.list(0, 3);
        x.feed(40);
        x.image();
        x.put(0, 1, 9);
        x.list(1, 0);
        x.feed(46);
        x.feed(46);
        x.feed(41);
        x.undo();
        Edges.due("get(0, 1)", x.get(0, 1), 9);
        Edges.due("count(4)", x.count(4), 2);
        Edges.due("count(2)", x.count(2), 4);
        Edges.due("read()", x.read(), 1);
        x.list(0, -1);
        x.undo();
        Edges.due("count(4), a LIST gone stays gone", x.count(4), 1);
    }

    // ---- 43 count

    @Edges.Says(promise = 43, words = "0 NODES")
    private static void countNodes() {
        for (int n = 1; n <= 7; n++) {
            Edges.due("count(0)", Edges.tree(n, 0).count(0), n);
        }
    }

    @Edges.Says(promise = 43, words = "1 STEPS that can be taken off")
    private static void countSteps() {
        LeaningTrees x = Edges.tree(4, 0);
        for (int i = 0; i <= 12; i++) {
            Edges.due("count(1)", x.count(1), Math.min(i, 10));
            x.number(i + 1);
        }
    }

    @Edges.Says(promise = 43, words = "2 bytes of THE TAPE")
    private static void countBytes() {
        LeaningTrees x = new LeaningTrees();
        for (int i = 0; i <= 62; i++) {
            Edges.due("count(2)", x.count(2), Math.min(i, 60));
            x.feed(40);
        }
    }

    @Edges.Says(promise = 43, words = "3 SHELVES that hold a TREE")
    private static void countShelves() {
        LeaningTrees x = new LeaningTrees();
        for (int shelf = 0; shelf <= 3; shelf++) {
            Edges.due("count(3)", x.count(3), shelf);
            x.keep(shelf);
        }
        Edges.due("count(3)", x.count(3), 4);
        x.keep(0);
        Edges.due("count(3)", x.count(3), 4);
        for (int shelf = 0; shelf <= 3; shelf++) {
            x.lose(shelf);
            Edges.due("count(3)", x.count(3), 3 - shelf);
        }
    }

    @Edges.Says(promise = 43, words = "4 LISTS that are there")
    private static void countLists() {
        LeaningTrees x = new LeaningTrees();
        for (int list = 0; list <= 2; list++) {
            Edges.due("count(4)", x.count(4), list);
            x.list(list, 10 * list);
        }
        Edges.due("count(4), a LIST of none is there", x.count(4), 3);
        for (int list = 0; list <= 2; list++) {
            x.list(list, -1);
            Edges.due("count(4)", x.count(4), 2 - list);
        }
    }

    @Edges.Says(promise = 43, words = "NONE.")
    private static void countHasFiveQuestions() {
        Edges.takes("count", LeaningTrees::new, LeaningTrees::count, 0, 4, Edges.NONE);
    }
}
