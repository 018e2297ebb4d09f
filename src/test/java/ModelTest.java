import java.util.ArrayDeque;
import java.util.ArrayList;
import java.util.Arrays;
import java.util.Comparator;
import java.util.HashMap;
import java.util.HashSet;
import java.util.List;
import java.util.Map;
import java.util.Set;

/**
 * A model of linked nodes that follows the document's words one by one, without any of the program's
 * short cuts, and the program against it: every tree, every pair of trees, and long runs of calls.
 */
public final class ModelTest {
    private static int wrong = 0;
    private static long asked = 0;

    private static void due(String call, long got, long want) {
        asked++;
        if (got != want) {
            wrong++;
            if (wrong <= 40) {
                System.out.println(call + " answered " + got + ", due is " + want);
            }
        }
    }

    // ---- trees of linked nodes; null is nothing

    private static final class Node {
        final Node left;
        final Node right;

        Node(Node left, Node right) {
            this.left = left;
            this.right = right;
        }
    }

    private static int size(Node t) {
        return t == null ? 0 : 1 + size(t.left) + size(t.right);
    }

    private static String text(Node t) {
        return t == null ? "." : "(" + text(t.left) + text(t.right) + ")";
    }

    private static void inOrder(Node t, List<Node> into) {
        if (t != null) {
            inOrder(t.left, into);
            into.add(t);
            inOrder(t.right, into);
        }
    }

    private static List<Node> inOrder(Node t) {
        List<Node> into = new ArrayList<>();
        inOrder(t, into);
        return into;
    }

    private static int[] row(Node t) {
        List<Node> nodes = inOrder(t);
        int[] row = new int[nodes.size()];
        for (int i = 0; i < row.length; i++) {
            row[i] = size(nodes.get(i).right);
        }
        return row;
    }

    private static Node mirror(Node t) {
        return t == null ? null : new Node(mirror(t.right), mirror(t.left));
    }

    private static Node over(Node a, Node b) {
        return b == null ? a : new Node(over(a, b.left), b.right);
    }

    private static Node under(Node a, Node b) {
        return a == null ? b : new Node(a.left, under(a.right, b));
    }

    /** What was right of c is left of i; null, if c is no left child. */
    private static Node turnUp(Node t, int c) {
        return replaced(t, c, true);
    }

    private static Node turnBack(Node t, int c) {
        return replaced(t, c, false);
    }

    private static Node replaced(Node t, int c, boolean up) {
        if (t == null) {
            return null;
        }
        int here = size(t.left);
        if (up && t.left != null && size(t.left.left) == c) {
            return new Node(t.left.left, new Node(t.left.right, t.right));
        }
        if (!up && here == c) {
            return t.right == null ? null : new Node(new Node(t.left, t.right.left), t.right.right);
        }
        if (c < here) {
            Node turned = replaced(t.left, c, up);
            return turned == null ? null : new Node(turned, t.right);
        }
        if (c > here) {
            Node turned = replaced(t.right, c - here - 1, up);
            return turned == null ? null : new Node(t.left, turned);
        }
        return null;
    }

    // ---- all trees of n nodes, with all that is asked of two of them

    private static final class World {
        final int n;
        final List<Node> trees = new ArrayList<>();
        final Map<String, Integer> numbers = new HashMap<>();
        final int[][] rows;
        final int[][] ups;
        final int[][] backs;
        final boolean[][] below;
        final int[][] way;
        final int[][] fewest;
        final int[][] most;
        final int[][] marks;

        World(int n) {
            this.n = n;
            trees.addAll(all(n));
            trees.sort(Comparator.comparing(ModelTest::row, Arrays::compare));
            int many = trees.size();
            rows = new int[many][];
            for (int k = 0; k < many; k++) {
                rows[k] = row(trees.get(k));
                numbers.put(text(trees.get(k)), k);
            }
            ups = new int[many][n];
            backs = new int[many][n];
            for (int k = 0; k < many; k++) {
                for (int c = 0; c < n; c++) {
                    ups[k][c] = numberOf(turnUp(trees.get(k), c));
                    backs[k][c] = numberOf(turnBack(trees.get(k), c));
                }
            }
            below = new boolean[many][many];
            way = new int[many][many];
            fewest = new int[many][many];
            most = new int[many][many];
            marks = new int[many][many];
            for (int a = 0; a < many; a++) {
                for (int b = 0; b < many; b++) {
                    below[a][b] = noMore(rows[a], rows[b]);
                }
            }
            for (int a = 0; a < many; a++) {
                spread(a);
                chains(a);
                markAll(a);
            }
        }

        private static List<Node> all(int n) {
            List<Node> found = new ArrayList<>();
            if (n == 0) {
                found.add(null);
            }
            for (int left = 0; left < n; left++) {
                for (Node l : all(left)) {
                    for (Node r : all(n - 1 - left)) {
                        found.add(new Node(l, r));
                    }
                }
            }
            return found;
        }

        int numberOf(Node t) {
            return t == null ? -1 : numbers.get(text(t));
        }

        private static boolean noMore(int[] low, int[] high) {
            for (int i = 0; i < low.length; i++) {
                if (low[i] > high[i]) {
                    return false;
                }
            }
            return true;
        }

        private void spread(int from) {
            Arrays.fill(way[from], -1);
            way[from][from] = 0;
            ArrayDeque<Integer> queue = new ArrayDeque<>();
            queue.add(from);
            while (!queue.isEmpty()) {
                int here = queue.remove();
                for (int c = 0; c < n; c++) {
                    for (int to : new int[] {ups[here][c], backs[here][c]}) {
                        if (to >= 0 && way[from][to] < 0) {
                            way[from][to] = way[from][here] + 1;
                            queue.add(to);
                        }
                    }
                }
            }
        }

        /** Layer by layer: the trees that just so many turns up lead to. */
        private void chains(int from) {
            Arrays.fill(fewest[from], -1);
            Arrays.fill(most[from], -1);
            Set<Integer> layer = new HashSet<>();
            layer.add(from);
            for (int turns = 0; !layer.isEmpty(); turns++) {
                Set<Integer> next = new HashSet<>();
                for (int here : layer) {
                    if (fewest[from][here] < 0) {
                        fewest[from][here] = turns;
                    }
                    most[from][here] = turns;
                    for (int to : ups[here]) {
                        if (to >= 0) {
                            next.add(to);
                        }
                    }
                }
                layer = next;
            }
        }

        private void markAll(int a) {
            for (int b = 0; b < trees.size(); b++) {
                if (!below[a][b]) {
                    continue;
                }
                int sum = 0;
                for (int z = 0; z < b; z++) {
                    if (below[a][z] && below[z][b]) {
                        sum += marks[a][z];
                    }
                }
                marks[a][b] = a == b ? 1 : -sum;
            }
        }

        int meet(int a, int b) {
            for (int m = 0; m < trees.size(); m++) {
                boolean so = below[m][a] && below[m][b];
                for (int z = 0; so && z < trees.size(); z++) {
                    so = !(below[z][a] && below[z][b]) || below[z][m];
                }
                if (so) {
                    return m;
                }
            }
            throw new IllegalStateException("no meet");
        }

        int join(int a, int b) {
            for (int j = 0; j < trees.size(); j++) {
                boolean so = below[a][j] && below[b][j];
                for (int z = 0; so && z < trees.size(); z++) {
                    so = !(below[a][z] && below[b][z]) || below[j][z];
                }
                if (so) {
                    return j;
                }
            }
            throw new IllegalStateException("no join");
        }

        List<Integer> between(int a, int b) {
            List<Integer> found = new ArrayList<>();
            for (int z = 0; z < trees.size(); z++) {
                if (below[a][z] && below[z][b]) {
                    found.add(z);
                }
            }
            return found;
        }

        /** As a list tells turns; a and b differ. */
        long firstTurn(int a, int b) {
            for (int c = 0; c < n; c++) {
                if (ups[a][c] >= 0 && way[ups[a][c]][b] == way[a][b] - 1) {
                    return c;
                }
            }
            for (int c = 0; c < n; c++) {
                if (backs[a][c] >= 0 && way[backs[a][c]][b] == way[a][b] - 1) {
                    return -1 - c;
                }
            }
            throw new IllegalStateException("no first turn");
        }

        int canopy(int k) {
            int bits = 0;
            List<Node> nodes = inOrder(trees.get(k));
            for (int i = 0; i + 1 < n; i++) {
                bits |= nodes.get(i).right != null ? 1 << i : 0;
            }
            return bits;
        }

        int digits(int k) {
            int digits = 0;
            for (int b : rows[k]) {
                digits = digits * 10 + b;
            }
            return digits;
        }
    }

    private static final World[] WORLDS = new World[8];
    private static final Map<String, Node> TEXTS = new HashMap<>();
    private static final Set<String> BEGINNINGS = new HashSet<>();

    // ---- the model of one object

    private static final class Model {
        int n = 3;
        int k = 0;
        int[] shelfN = new int[4];
        int[] shelfK = new int[4];
        ArrayList<int[]> steps = new ArrayList<>();
        long[][] lists = new long[3][];
        StringBuilder tape = new StringBuilder();
        int[] image;

        World world() {
            return WORLDS[n];
        }

        void become(int newN, int newK) {
            if (newN != n || newK != k) {
                steps.add(new int[] {n, k});
                if (steps.size() > 10) {
                    steps.remove(0);
                }
                n = newN;
                k = newK;
            }
        }

        void becomeTree(Node t) {
            int size = size(t);
            become(size, WORLDS[size].numberOf(t));
        }

        int nodes(int want) {
            if (want < 1 || want > 7) {
                return -2;
            }
            int had = n;
            n = want;
            k = 0;
            steps.clear();
            return had;
        }

        int row(int digits) {
            for (int z = 0; z < world().trees.size(); z++) {
                if (world().digits(z) == digits) {
                    become(n, z);
                    return z;
                }
            }
            return -2;
        }

        int of(int i, int what) {
            if (i < 0 || i >= n || what < 0 || what > 5) {
                return -1;
            }
            List<Node> nodes = inOrder(world().trees.get(k));
            Node me = nodes.get(i);
            switch (what) {
                case 0:
                    return size(me.right);
                case 1:
                    for (int p = 0; p < n; p++) {
                        if (nodes.get(p).left == me || nodes.get(p).right == me) {
                            return p;
                        }
                    }
                    return -5;
                case 2:
                    return me.left == null ? -5 : nodes.indexOf(me.left);
                case 3:
                    return me.right == null ? -5 : nodes.indexOf(me.right);
                case 4:
                    return size(me.left);
                default:
                    int above = 0;
                    for (Node other : nodes) {
                        above += other != me && inOrder(other).contains(me) ? 1 : 0;
                    }
                    return above;
            }
        }

        int number(int want) {
            if (want < 0 || want >= world().trees.size()) {
                return -1;
            }
            int had = k;
            become(n, want);
            return had;
        }

        int turn(int c, boolean up) {
            if (c < 0 || c >= n) {
                return -1;
            }
            int to = up ? world().ups[k][c] : world().backs[k][c];
            if (to < 0) {
                return -5;
            }
            become(n, to);
            return k;
        }

        int mayTurn(int what) {
            if (what < 0 || what > 3) {
                return -1;
            }
            int bits = 0;
            for (int c = 0; c < n; c++) {
                int to = what % 2 == 0 ? world().ups[k][c] : world().backs[k][c];
                bits |= to >= 0 ? 1 << c : 0;
            }
            return what < 2 ? Integer.bitCount(bits) : bits;
        }

        int mirrorIt() {
            becomeTree(mirror(world().trees.get(k)));
            return k;
        }

        int off() {
            if (steps.isEmpty()) {
                return -3;
            }
            int[] step = steps.remove(steps.size() - 1);
            n = step[0];
            k = step[1];
            return steps.size();
        }

        int lack(int shelf) {
            return shelf < 0 || shelf > 3 ? -1 : shelfN[shelf] == 0 ? -6 : 0;
        }

        int refusal(int shelf, boolean none) {
            if (none || lack(shelf) == -1) {
                return -1;
            }
            return lack(shelf) != 0 ? lack(shelf) : shelfN[shelf] != n ? -7 : 0;
        }

        int below(int shelf, int what) {
            int no = refusal(shelf, what < 0 || what > 1);
            if (no != 0) {
                return no;
            }
            return (what == 0 ? world().below[k][shelfK[shelf]] : world().below[shelfK[shelf]][k]) ? 1 : 0;
        }

        int meet(int shelf, int what) {
            int no = refusal(shelf, what < 0 || what > 1);
            if (no != 0) {
                return no;
            }
            return what == 0 ? world().meet(k, shelfK[shelf]) : world().join(k, shelfK[shelf]);
        }

        int meetAll(int what) {
            if (what < 0 || what > 1) {
                return -1;
            }
            int all = k;
            for (int s = 0; s < 4; s++) {
                if (shelfN[s] == n) {
                    all = what == 0 ? world().meet(all, shelfK[s]) : world().join(all, shelfK[s]);
                }
            }
            return all;
        }

        int between(int shelf, int want) {
            int no = refusal(shelf, want < -1);
            if (no != 0) {
                return no;
            }
            List<Integer> found = world().between(k, shelfK[shelf]);
            if (want == -1) {
                return found.size();
            }
            return want < found.size() ? found.get(want) : -1;
        }

        int way(int shelf, int what) {
            int no = refusal(shelf, what < 0 || what > 1);
            if (no != 0) {
                return no;
            }
            int goal = shelfK[shelf];
            if (what == 0) {
                return world().way[k][goal];
            }
            if (k == goal) {
                return -5;
            }
            long first = world().firstTurn(k, goal);
            return (int) (first >= 0 ? first : 100 + (-1 - first));
        }

        int chain(int shelf, int what) {
            int no = refusal(shelf, what < 0 || what > 1);
            if (no != 0) {
                return no;
            }
            if (!world().below[k][shelfK[shelf]]) {
                return -5;
            }
            return what == 0 ? world().fewest[k][shelfK[shelf]] : world().most[k][shelfK[shelf]];
        }

        int mark(int shelf) {
            int no = refusal(shelf, false);
            if (no != 0) {
                return -100 - no;
            }
            return world().below[k][shelfK[shelf]] ? world().marks[k][shelfK[shelf]] : -95;
        }

        int pairs(int want) {
            if (want < 1 || want > 6) {
                return -2;
            }
            int found = 0;
            for (boolean[] from : WORLDS[want].below) {
                for (boolean to : from) {
                    found += to ? 1 : 0;
                }
            }
            return found;
        }

        int far(int what) {
            if (what < 0 || what > 2) {
                return -1;
            }
            int most = Arrays.stream(world().way[k]).max().getAsInt();
            if (what == 0) {
                return most;
            }
            int found = 0;
            int least = -1;
            for (int z = 0; z < world().trees.size(); z++) {
                if (world().way[k][z] == most) {
                    least = found == 0 ? z : least;
                    found++;
                }
            }
            return what == 1 ? found : least;
        }

        int inClass(int set, int what) {
            if (set < 0 || set >= 1 << (n - 1)) {
                return -2;
            }
            if (what < 0 || what > 2) {
                return -1;
            }
            List<Integer> found = new ArrayList<>();
            for (int z = 0; z < world().trees.size(); z++) {
                if (world().canopy(z) == set) {
                    found.add(z);
                }
            }
            return what == 0 ? found.size() : what == 1 ? found.get(0) : found.get(found.size() - 1);
        }

        int likeness(int shelf) {
            int no = refusal(shelf, false);
            return no != 0 ? no : Integer.bitCount(world().canopy(k) ^ world().canopy(shelfK[shelf]));
        }

        int keep(int shelf) {
            if (lack(shelf) == -1) {
                return -1;
            }
            shelfN[shelf] = n;
            shelfK[shelf] = k;
            return k;
        }

        int lay(int shelf) {
            if (lack(shelf) != 0) {
                return lack(shelf);
            }
            become(shelfN[shelf], shelfK[shelf]);
            return n;
        }

        int lose(int shelf) {
            if (lack(shelf) != 0) {
                return lack(shelf);
            }
            int had = shelfN[shelf];
            shelfN[shelf] = 0;
            return had;
        }

        int together(int shelf, boolean over) {
            if (lack(shelf) != 0) {
                return lack(shelf);
            }
            if (n + shelfN[shelf] > 7) {
                return -4;
            }
            Node me = world().trees.get(k);
            Node held = WORLDS[shelfN[shelf]].trees.get(shelfK[shelf]);
            becomeTree(over ? over(held, me) : under(me, held));
            return n;
        }

        int shelf(int shelf, int what) {
            if (what < 0 || what > 2) {
                return -1;
            }
            if (lack(shelf) != 0) {
                return lack(shelf);
            }
            return what == 0 ? shelfN[shelf] : what == 1 ? shelfK[shelf] : WORLDS[shelfN[shelf]].digits(shelfK[shelf]);
        }

        int list(int list, int want) {
            if (list < 0 || list > 2) {
                return -1;
            }
            if (want > 20) {
                return -2;
            }
            if (want < -1) {
                return -14;
            }
            lists[list] = want == -1 ? null : new long[want];
            return 1;
        }

        int put(int list, int i, long v) {
            if (list < 0 || list > 2) {
                return -1;
            }
            if (lists[list] == null) {
                return -11;
            }
            if (i < 0 || i >= lists[list].length) {
                return -13;
            }
            lists[list][i] = v;
            return 1;
        }

        long get(int list, int i) {
            boolean there = list >= 0 && list < 3 && lists[list] != null && i >= 0 && i < lists[list].length;
            return there ? lists[list][i] : Long.MIN_VALUE;
        }

        int play(int list) {
            if (list < 0 || list > 2) {
                return -1;
            }
            if (lists[list] == null) {
                return -11;
            }
            int done = 0;
            for (long v : lists[list]) {
                long c = v >= 0 ? v : -1 - v;
                int to = c >= n ? -1 : v >= 0 ? world().ups[k][(int) c] : world().backs[k][(int) c];
                if (to < 0) {
                    break;
                }
                become(n, to);
                done++;
            }
            return done;
        }

        int film(int list, int shelf) {
            int no = refusal(shelf, list < 0 || list > 2);
            if (no != 0) {
                return no;
            }
            int goal = shelfK[shelf];
            long[] told = new long[world().way[k][goal]];
            int here = k;
            for (int i = 0; i < told.length; i++) {
                told[i] = world().firstTurn(here, goal);
                here = told[i] >= 0 ? world().ups[here][(int) told[i]] : world().backs[here][(int) (-1 - told[i])];
            }
            lists[list] = told;
            return told.length;
        }

        int feed(int letter) {
            if (letter < 32 || letter > 126) {
                return -2;
            }
            if (tape.length() == 60) {
                return -4;
            }
            tape.append((char) letter);
            return tape.length();
        }

        int wipe() {
            int had = tape.length();
            tape.setLength(0);
            return had;
        }

        int read() {
            String text = tape.toString();
            tape.setLength(0);
            for (int i = 0; i < text.length(); i++) {
                if (!BEGINNINGS.contains(text.substring(0, i + 1))) {
                    return -100 - i;
                }
            }
            Node told = TEXTS.get(text);
            if (told == null) {
                return -100 - text.length();
            }
            n = size(told);
            k = WORLDS[n].numberOf(told);
            steps.clear();
            return n;
        }

        int written(int i) {
            String text = text(world().trees.get(k));
            return i == -1 ? text.length() : i < 0 || i >= text.length() ? -1 : text.charAt(i);
        }

        int image() {
            image = new int[10];
            image[0] = n;
            image[1] = k;
            System.arraycopy(shelfN, 0, image, 2, 4);
            System.arraycopy(shelfK, 0, image, 6, 4);
            return n;
        }

        int undo() {
            if (image == null) {
                return -3;
            }
            n = image[0];
            k = image[1];
            System.arraycopy(image, 2, shelfN, 0, 4);
            System.arraycopy(image, 6, shelfK, 0, 4);
            steps.clear();
            return n;
        }

        int count(int what) {
            switch (what) {
                case 0:
                    return n;
                case 1:
                    return steps.size();
                case 2:
                    return tape.length();
                case 3:
                    return (int) Arrays.stream(shelfN).filter(s -> s > 0).count();
                case 4:
                    return (int) Arrays.stream(lists).filter(l -> l != null).count();
                default:
                    return -1;
            }
        }
    }

    // ---- long runs of calls, the same ones each time

    private static long seed;

    private static int below(int bound) {
        seed = seed * 6364136223846793005L + 1442695040888963407L;
        return (int) ((seed >>> 33) % bound);
    }

    private static final int[] STRANGE = {-1, -2, -3, 8, 9, 20, 21, 100, 1000000, Integer.MAX_VALUE, Integer.MIN_VALUE};

    /** Mostly from .. from + many - 1, now and then something strange. */
    private static int pick(int from, int many) {
        int odd = below(16);
        if (odd == 0) {
            return STRANGE[below(STRANGE.length)];
        }
        if (odd == 1) {
            return from + many;
        }
        return odd == 2 ? from - 1 : from + below(many);
    }

    private static int pickDigits(Model m) {
        if (below(3) > 0) {
            return m.world().digits(below(m.world().trees.size()));
        }
        int digits = 0;
        for (int i = m.n - 1; i >= 0; i--) {
            digits = digits * 10 + below(i + 1);
        }
        return below(6) == 0 ? digits - 1000 + below(2000) : digits;
    }

    private static int pickLetter() {
        int odd = below(20);
        return odd == 0 ? pick(32, 95) : odd < 9 ? '.' : odd < 16 ? '(' : ')';
    }

    private static long pickTold(int n) {
        int odd = below(16);
        if (odd == 0) {
            return new long[] {1L << 32, -(1L << 32) - 1, Long.MIN_VALUE, Long.MAX_VALUE, n, -1 - n}[below(6)];
        }
        int c = below(n);
        return below(2) == 0 ? c : -1 - c;
    }

    private static void oneCall(LeaningTrees x, Model m, String at) {
        int a;
        int b;
        switch (below(53)) {
            case 0: a = pick(1, 7); due(at + "nodes " + a, x.nodes(a), m.nodes(a)); break;
            case 1: a = pickDigits(m); due(at + "row " + a, x.row(a), m.row(a)); break;
            case 2: a = pick(0, m.n); b = pick(0, 6); due(at + "of " + a + " " + b, x.of(a, b), m.of(a, b)); break;
            case 3: case 44: a = pick(0, m.world().trees.size()); due(at + "number " + a, x.number(a), m.number(a)); break;
            case 4: due(at + "which", x.which(), m.k); break;
            case 5: a = pick(1, 7); due(at + "many " + a, x.many(a), a < 1 || a > 7 ? -2 : WORLDS[a].trees.size()); break;
            case 6: due(at + "digits", x.digits(), m.world().digits(m.k)); break;
            case 7: case 45: a = pick(0, m.n); due(at + "turn " + a, x.turn(a), m.turn(a, true)); break;
            case 8: case 46: a = pick(0, m.n); due(at + "back " + a, x.back(a), m.turn(a, false)); break;
            case 9: a = pick(0, 4); due(at + "mayTurn " + a, x.mayTurn(a), m.mayTurn(a)); break;
            case 10: due(at + "mirror", x.mirror(), m.mirrorIt()); break;
            case 11: due(at + "off", x.off(), m.off()); break;
            case 12: a = pick(0, 4); b = pick(0, 2); due(at + "below " + a + " " + b, x.below(a, b), m.below(a, b)); break;
            case 13: a = pick(0, 4); b = pick(0, 2); due(at + "meet " + a + " " + b, x.meet(a, b), m.meet(a, b)); break;
            case 14: a = pick(0, 2); due(at + "meetAll " + a, x.meetAll(a), m.meetAll(a)); break;
            case 15: a = pick(0, 4); b = below(3) == 0 ? pick(-1, 5) : pick(-1, 60); due(at + "between " + a + " " + b, x.between(a, b), m.between(a, b)); break;
            case 16: a = pick(0, 4); b = pick(0, 2); due(at + "way " + a + " " + b, x.way(a, b), m.way(a, b)); break;
            case 17: a = pick(0, 4); b = pick(0, 2); due(at + "chain " + a + " " + b, x.chain(a, b), m.chain(a, b)); break;
            case 18: a = pick(0, 4); due(at + "mark " + a, x.mark(a), m.mark(a)); break;
            case 19: a = pick(1, 6); due(at + "pairs " + a, x.pairs(a), m.pairs(a)); break;
            case 20: a = pick(0, 3); due(at + "far " + a, x.far(a), m.far(a)); break;
            case 21: due(at + "canopy", x.canopy(), m.world().canopy(m.k)); break;
            case 22: a = pick(0, 1 << (m.n - 1)); b = pick(0, 3); due(at + "inClass " + a + " " + b, x.inClass(a, b), m.inClass(a, b)); break;
            case 23: a = pick(0, 4); due(at + "likeness " + a, x.likeness(a), m.likeness(a)); break;
            case 24: case 47: case 48: a = pick(0, 4); due(at + "keep " + a, x.keep(a), m.keep(a)); break;
            case 25: a = pick(0, 4); due(at + "lay " + a, x.lay(a), m.lay(a)); break;
            case 26: a = pick(0, 4); due(at + "lose " + a, x.lose(a), m.lose(a)); break;
            case 27: a = pick(0, 4); due(at + "over " + a, x.over(a), m.together(a, true)); break;
            case 28: a = pick(0, 4); due(at + "under " + a, x.under(a), m.together(a, false)); break;
            case 29: a = pick(0, 4); b = pick(0, 3); due(at + "shelf " + a + " " + b, x.shelf(a, b), m.shelf(a, b)); break;
            case 30: a = pick(0, 3); b = pick(-1, 22); due(at + "list " + a + " " + b, x.list(a, b), m.list(a, b)); break;
            case 31: case 49: case 50:
                a = pick(0, 3);
                b = pick(0, 4);
                long v = pickTold(m.n);
                due(at + "put " + a + " " + b + " " + v, x.put(a, b, v), m.put(a, b, v));
                break;
            case 32: a = pick(0, 3); b = pick(0, 20); due(at + "get " + a + " " + b, x.get(a, b), m.get(a, b)); break;
            case 33: a = pick(0, 3); due(at + "play " + a, x.play(a), m.play(a)); break;
            case 34: a = pick(0, 3); b = pick(0, 4); due(at + "film " + a + " " + b, x.film(a, b), m.film(a, b)); break;
            case 35: case 36: a = pickLetter(); due(at + "feed " + a, x.feed(a), m.feed(a)); break;
            case 37: if (below(4) == 0) { due(at + "wipe", x.wipe(), m.wipe()); } break;
            case 38: if (below(3) == 0) { due(at + "read", x.read(), m.read()); } break;
            case 39: a = pick(-1, 3 * m.n + 2); due(at + "written " + a, x.written(a), m.written(a)); break;
            case 40: if (below(3) == 0) { due(at + "image", x.image(), m.image()); } break;
            case 41: if (below(3) == 0) { due(at + "undo", x.undo(), m.undo()); } break;
            case 42: case 43: a = pick(0, 5); due(at + "count " + a, x.count(a), m.count(a)); break;
            case 51: a = pick(0, 3); due(at + "play " + a, x.play(a), m.play(a)); break;
            default: a = pick(0, 4); due(at + "mark " + a, x.mark(a), m.mark(a)); break;
        }
    }

    /** A whole text, now and then with one byte changed, behind what the tape holds. */
    private static int feedText(LeaningTrees x, Model m, String at, int room) {
        World world = WORLDS[1 + below(7)];
        StringBuilder text = new StringBuilder(text(world.trees.get(below(world.trees.size()))));
        int odd = below(4);
        int place = below(text.length());
        if (odd == 0) {
            text.setCharAt(place, ".()x".charAt(below(4)));
        } else if (odd == 1) {
            text.insert(place, ".()".charAt(below(3)));
        } else if (odd == 2 && below(2) == 0) {
            text.deleteCharAt(place);
        }
        if (text.length() + 2 > room) {
            return 0;
        }
        due(at + "wipe", x.wipe(), m.wipe());
        for (int i = 0; i < text.length(); i++) {
            due(at + "feed", x.feed(text.charAt(i)), m.feed(text.charAt(i)));
        }
        due(at + "read of " + text, x.read(), m.read());
        return text.length() + 2;
    }

    /** An object is promised for 512 calls; the last two look at how the run has ended. */
    private static final int MOST_CALLS = 510;

    private static void run(int number) {
        seed = number * 7919L;
        LeaningTrees x = new LeaningTrees();
        Model m = new Model();
        int calls = 0;
        while (calls < MOST_CALLS) {
            String at = "run " + number + " call " + calls + ": ";
            if (below(60) == 0) {
                calls += feedText(x, m, at, MOST_CALLS - calls);
            } else {
                oneCall(x, m, at);
                calls++;
            }
        }
        due("run " + number + " at its end: which", x.which(), m.k);
        due("run " + number + " at its end: count(0)", x.count(0), m.n);
    }

    // ---- every tree, every pair

    private static LeaningTrees at(int n, int k) {
        LeaningTrees x = new LeaningTrees();
        x.nodes(n);
        x.number(k);
        return x;
    }

    private static void everyTree(int n) {
        World world = WORLDS[n];
        for (int k = 0; k < world.trees.size(); k++) {
            String at = "tree " + k + " of " + n + ": ";
            LeaningTrees x = at(n, k);
            Model m = new Model();
            m.nodes(n);
            m.number(k);
            due(at + "digits", x.digits(), world.digits(k));
            due(at + "canopy", x.canopy(), world.canopy(k));
            due(at + "row", at(n, 0).row(world.digits(k)), k);
            due(at + "mirror", at(n, k).mirror(), world.numberOf(mirror(world.trees.get(k))));
            for (int i = 0; i < n; i++) {
                for (int what = 0; what <= 5; what++) {
                    due(at + "of " + i + " " + what, x.of(i, what), m.of(i, what));
                }
                due(at + "turn " + i, at(n, k).turn(i), world.ups[k][i] < 0 ? -5 : world.ups[k][i]);
                due(at + "back " + i, at(n, k).back(i), world.backs[k][i] < 0 ? -5 : world.backs[k][i]);
            }
            for (int what = 0; what < 4; what++) {
                due(at + "mayTurn " + what, x.mayTurn(what), m.mayTurn(what));
            }
            for (int what = 0; what < 3; what++) {
                due(at + "far " + what, x.far(what), m.far(what));
            }
            String text = text(world.trees.get(k));
            due(at + "written -1", x.written(-1), text.length());
            LeaningTrees reader = new LeaningTrees();
            for (int i = 0; i < text.length(); i++) {
                due(at + "written " + i, x.written(i), text.charAt(i));
                reader.feed(text.charAt(i));
            }
            due(at + "read", reader.read(), n);
            due(at + "read, which", reader.which(), k);
        }
        for (int set = 0; set < 1 << (n - 1); set++) {
            Model m = new Model();
            m.nodes(n);
            for (int what = 0; what < 3; what++) {
                due("inClass " + set + " of " + n, at(n, 0).inClass(set, what), m.inClass(set, what));
            }
        }
    }

    /** The document's BELOW is what turns up alone lead to. */
    private static void orderComesOfTurns(World world) {
        for (int a = 0; a < world.trees.size(); a++) {
            for (int b = 0; b < world.trees.size(); b++) {
                due("turns up from " + a + " to " + b, world.fewest[a][b] >= 0 ? 1 : 0, world.below[a][b] ? 1 : 0);
            }
        }
    }

    /** One shelf's tree against every tree, with a new object ahead of its 512th call. */
    private static void everyPair(int n) {
        World world = WORLDS[n];
        int many = world.trees.size();
        for (int goal = 0; goal < many; goal++) {
            LeaningTrees x = null;
            for (int k = 0; k < many; k++) {
                if (k % 40 == 0) {
                    x = at(n, goal);
                    x.keep(0);
                }
                String at = "tree " + k + " and " + goal + " of " + n + ": ";
                boolean isBelow = world.below[k][goal];
                x.number(k);
                due(at + "below 0", x.below(0, 0), isBelow ? 1 : 0);
                due(at + "below 1", x.below(0, 1), world.below[goal][k] ? 1 : 0);
                due(at + "way 0", x.way(0, 0), world.way[k][goal]);
                long first = k == goal ? 0 : world.firstTurn(k, goal);
                due(at + "way 1", x.way(0, 1), k == goal ? -5 : first >= 0 ? first : 99 - first);
                due(at + "chain 0", x.chain(0, 0), isBelow ? world.fewest[k][goal] : -5);
                due(at + "chain 1", x.chain(0, 1), isBelow ? world.most[k][goal] : -5);
                due(at + "mark", x.mark(0), isBelow ? world.marks[k][goal] : -95);
                due(at + "between -1", x.between(0, -1), world.between(k, goal).size());
                due(at + "meet", x.meet(0, 0), world.meet(k, goal));
                due(at + "join", x.meet(0, 1), world.join(k, goal));
            }
        }
    }

    public static void main(String[] args) {
        for (int n = 1; n <= 7; n++) {
            WORLDS[n] = new World(n);
            for (Node t : WORLDS[n].trees) {
                String text = text(t);
                TEXTS.put(text, t);
                for (int i = 1; i <= text.length(); i++) {
                    BEGINNINGS.add(text.substring(0, i));
                }
            }
        }
        for (int n = 1; n <= 7; n++) {
            orderComesOfTurns(WORLDS[n]);
            everyTree(n);
            everyPair(n);
        }
        for (int number = 1; number <= 2000; number++) {
            run(number);
        }
        System.out.println(asked + " answers looked at, " + wrong + " wrong");
        if (wrong != 0) {
            System.exit(1);
        }
    }
}
