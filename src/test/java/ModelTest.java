import java.util.ArrayList;
import java.util.List;

/**
 * Runs of calls that are the same each time, on the program and on a plain model of the document: trees of nodes,
 * recursion, and for what stepping would do a trial on copies. All answers must agree, and at the end of a run all that
 * can be seen of both.
 */
public final class ModelTest {
    private static final int BAD_ARG = -1000000001;
    private static final int NO_PARENT = -1000000002;
    private static final int EXISTS = -1000000003;
    private static final int NONE = -1000000004;
    private static final int[] LOW_PATHS = {0, 1, 4, 5, 7, 8, 20, 21, 24, 36};
    private static final int[] HIGH_PATHS = {2, 3, 15, 16, 18, 19, 67, 68, 76, 80, 83};
    private static final int RUNS = 60000;
    // With the calls that look at the object at the end these stay below the 512 that the document allows.
    private static final int CALLS = 80;

    /** What a path is; null stands for nothing. */
    private static final class Node {
        private final boolean folder;
        private final int number;
        private final Node[] inside = new Node[4];

        private Node(boolean folder, int number) {
            this.folder = folder;
            this.number = number;
        }

        private boolean empty() {
            for (Node child : inside) {
                if (child != null) {
                    return false;
                }
            }
            return true;
        }
    }

    private static Node cloneOf(Node node) {
        if (node == null) {
            return null;
        }
        Node made = new Node(node.folder, node.number);
        for (int n = 0; n < 4; n++) {
            made.inside[n] = cloneOf(node.inside[n]);
        }
        return made;
    }

    private static boolean equal(Node a, Node b) {
        if (a == null || b == null) {
            return a == b;
        }
        if (a.folder != b.folder || !a.folder && a.number != b.number) {
            return false;
        }
        for (int n = 0; n < 4; n++) {
            if (!equal(a.inside[n], b.inside[n])) {
                return false;
            }
        }
        return true;
    }

    private static int count(Node node) {
        if (node == null) {
            return 0;
        }
        int sum = 1;
        for (Node child : node.inside) {
            sum += count(child);
        }
        return sum;
    }

    /** The names that lead from the root to p, as the document tells them. */
    private static int[] names(int p) {
        if (p < 4) {
            return new int[] {p};
        }
        if (p < 20) {
            return new int[] {(p - 4) / 4, (p - 4) % 4};
        }
        int q = (p - 20) / 4;
        return new int[] {q / 4, q % 4, (p - 20) % 4};
    }

    private static int pathOf(int parent, int n) {
        if (parent < 0) {
            return n;
        }
        return parent < 4 ? 4 + 4 * parent + n : 20 + 4 * (parent - 4) + n;
    }

    private static Node parentNode(Node root, int p) {
        int[] names = names(p);
        Node here = root;
        for (int i = 0; i < names.length - 1; i++) {
            here = here == null ? null : here.inside[names[i]];
        }
        return here != null && here.folder ? here : null;
    }

    private static Node get(Node root, int p) {
        Node parent = parentNode(root, p);
        return parent == null ? null : parent.inside[names(p)[names(p).length - 1]];
    }

    private static void put(Node root, int p, Node content) {
        parentNode(root, p).inside[names(p)[names(p).length - 1]] = content;
    }

    private static int kindOf(Node node) {
        if (node == null) {
            return 0;
        }
        return node.folder ? 2 : 1;
    }

    private static final class Model {
        private final Node[] trees = {new Node(true, 0), new Node(true, 0), new Node(true, 0)};
        private final Node[] kept = new Node[3];
        private int preferred = -1;
        private final List<int[]> done = new ArrayList<>();
        private final List<Integer> conflicts = new ArrayList<>();
        private boolean stopped;

        private static boolean bad(int s, int p) {
            return s < 0 || s > 1 || p < 0 || p > 83;
        }

        private int write(int s, int p, int x) {
            if (bad(s, p)) {
                return BAD_ARG;
            }
            if (parentNode(trees[s], p) == null) {
                return NO_PARENT;
            }
            Node before = get(trees[s], p);
            if (kindOf(before) == 2) {
                return EXISTS;
            }
            put(trees[s], p, new Node(false, x));
            return before == null ? 0 : 1;
        }

        private int folder(int s, int p) {
            if (bad(s, p)) {
                return BAD_ARG;
            }
            if (parentNode(trees[s], p) == null) {
                return NO_PARENT;
            }
            if (get(trees[s], p) != null) {
                return EXISTS;
            }
            put(trees[s], p, new Node(true, 0));
            return 0;
        }

        private int remove(int s, int p) {
            if (bad(s, p)) {
                return BAD_ARG;
            }
            Node before = get(trees[s], p);
            if (before == null) {
                return NONE;
            }
            put(trees[s], p, null);
            return count(before);
        }

        private int place(int s, int p, int q, boolean moving) {
            if (bad(s, p) || bad(s, q)) {
                return BAD_ARG;
            }
            Node content = get(trees[s], p);
            if (content == null) {
                return NONE;
            }
            if (parentNode(trees[s], q) == null) {
                return NO_PARENT;
            }
            if (get(trees[s], q) != null) {
                return EXISTS;
            }
            if (stands(q, p) || content.folder && !content.empty() && q >= 20 || hasFullFolder(content) && q >= 4) {
                return BAD_ARG;
            }
            put(trees[s], q, cloneOf(content));
            if (moving) {
                put(trees[s], p, null);
            }
            return 0;
        }

        private static boolean stands(int q, int p) {
            for (int n = 0; n < 4 && p < 20; n++) {
                int child = pathOf(p, n);
                if (child == q || stands(q, child)) {
                    return true;
                }
            }
            return false;
        }

        private static boolean hasFullFolder(Node content) {
            for (Node child : content.inside) {
                if (child != null && child.folder && !child.empty()) {
                    return true;
                }
            }
            return false;
        }

        private int changed(int s) {
            int sum = 0;
            for (int p = 0; p < 84; p++) {
                sum += alike(get(trees[s], p), get(trees[2], p)) ? 0 : 1;
            }
            return sum;
        }

        private static boolean alike(Node a, Node b) {
            return kindOf(a) == kindOf(b) && (kindOf(a) != 1 || a.number == b.number);
        }

        private int twins(int s, int p) {
            Node content = get(trees[s], p);
            int sum = 0;
            for (int q = 0; q < 84 && content != null; q++) {
                sum += q != p && equal(content, get(trees[s], q)) ? 1 : 0;
            }
            return sum;
        }

        private int stepping(long limit) {
            done.clear();
            conflicts.clear();
            stopped = false;
            for (int p = 0; p < 4; p++) {
                stepAt(p, limit);
            }
            return done.size();
        }

        private void stepAt(int p, long limit) {
            if (stopped) {
                return;
            }
            Node a = get(trees[0], p);
            Node b = get(trees[1], p);
            Node last = get(trees[2], p);
            if (equal(a, b)) {
                put(trees[2], p, cloneOf(a));
            } else if (kindOf(a) == 2 && kindOf(b) == 2) {
                if (kindOf(last) != 2) {
                    put(trees[2], p, new Node(true, 0));
                }
                for (int n = 0; n < 4; n++) {
                    stepAt(pathOf(p, n), limit);
                }
            } else if (equal(a, last)) {
                act(p, 0, b, limit);
            } else if (equal(b, last)) {
                act(p, 1, a, limit);
            } else {
                conflicts.add(p);
                if (preferred >= 0) {
                    act(p, 1 - preferred, preferred == 0 ? a : b, limit);
                }
            }
        }

        private void act(int p, int side, Node content, long limit) {
            if (done.size() >= limit) {
                stopped = true;
                return;
            }
            put(trees[side], p, cloneOf(content));
            put(trees[2], p, cloneOf(content));
            done.add(new int[] {p, side});
        }

        private Model trial() {
            Model copy = new Model();
            for (int t = 0; t < 3; t++) {
                copy.trees[t] = cloneOf(trees[t]);
            }
            copy.preferred = preferred;
            copy.stepping(Long.MAX_VALUE);
            return copy;
        }

        private int prefer(int s) {
            if (s < -1 || s > 1) {
                return BAD_ARG;
            }
            preferred = s;
            return 0;
        }

        private int keep(int s, int k) {
            if (bad(s, 0) || k < 0 || k > 2) {
                return BAD_ARG;
            }
            kept[k] = cloneOf(trees[s]);
            return count(trees[s]) - 1;
        }

        private int restore(int s, int k) {
            if (bad(s, 0) || k < 0 || k > 2) {
                return BAD_ARG;
            }
            if (kept[k] == null) {
                return NONE;
            }
            trees[s] = cloneOf(kept[k]);
            return count(trees[s]) - 1;
        }
    }

    private long seed;
    private final int run;
    private final TreeSync program = new TreeSync();
    private final Model model = new Model();
    private final StringBuilder told = new StringBuilder();
    private static int wrong = 0;

    private ModelTest(int run) {
        this.run = run;
        this.seed = run * 7919L + 17;
    }

    private int pick(int bound) {
        seed = seed * 6364136223846793005L + 1442695040888963407L;
        return (int) ((seed >>> 33) % bound);
    }

    private int side() {
        return pick(60) == 0 ? pick(2) * 3 - 1 : pick(2);
    }

    /** Runs with few paths meet conflicts and full folders often, runs with all paths meet every place. */
    private int path() {
        if (pick(80) == 0) {
            return pick(2) == 0 ? -1 - pick(3) : 84 + pick(300);
        }
        if (run % 3 == 0) {
            int level = pick(3);
            return level == 0 ? pick(4) : level == 1 ? 4 + pick(16) : 20 + pick(64);
        }
        return run % 3 == 1 ? LOW_PATHS[pick(LOW_PATHS.length)] : HIGH_PATHS[pick(HIGH_PATHS.length)];
    }

    private void due(String call, long got, long want) {
        if (got != want) {
            wrong++;
            if (wrong <= 20) {
                System.out.println("run " + run + ":" + told + " then " + call + " answered " + got
                    + ", due is " + want);
            }
        }
    }

    private void anyCall() {
        int s = side();
        int p = path();
        int q = path();
        int x = pick(3);
        int which = pick(24);
        if (which >= 20) {
            look(s, p);
        } else if (which < 5) {
            tell("write(" + s + ", " + p + ", " + x + ")", program.write(s, p, x), model.write(s, p, x));
        } else if (which < 10) {
            tell("folder(" + s + ", " + p + ")", program.folder(s, p), model.folder(s, p));
        } else if (which < 12) {
            tell("remove(" + s + ", " + p + ")", program.remove(s, p), model.remove(s, p));
        } else if (which < 14) {
            tell("move(" + s + ", " + p + ", " + q + ")", program.move(s, p, q), model.place(s, p, q, true));
        } else if (which < 16) {
            tell("copy(" + s + ", " + p + ", " + q + ")", program.copy(s, p, q), model.place(s, p, q, false));
        } else if (which < 17) {
            int n = pick(5) - 1;
            tell("stepSome(" + n + ")", program.stepSome(n), n < 0 ? BAD_ARG : model.stepping(n));
        } else {
            rareCall(s);
        }
    }

    private void rareCall(int s) {
        int which = pick(6);
        int k = pick(12) == 0 ? pick(2) * 4 - 1 : pick(3);
        if (which == 0) {
            tell("step()", program.step(), model.stepping(Long.MAX_VALUE));
        } else if (which == 1) {
            int side = pick(5) - 2;
            tell("prefer(" + side + ")", program.prefer(side), model.prefer(side));
        } else if (which < 4) {
            tell("keep(" + s + ", " + k + ")", program.keep(s, k), model.keep(s, k));
        } else {
            tell("restore(" + s + ", " + k + ")", program.restore(s, k), model.restore(s, k));
        }
    }

    private void look(int s, int p) {
        boolean bad = Model.bad(s, p);
        Node node = bad ? null : get(model.trees[s], p);
        Model trial = model.trial();
        int which = pick(8);
        if (which == 0) {
            tell("kind(" + s + ", " + p + ")", program.kind(s, p), bad ? BAD_ARG : kindOf(node));
        } else if (which == 1) {
            int number = kindOf(node) == 1 ? node.number : NONE;
            tell("number(" + s + ", " + p + ")", program.number(s, p), bad ? BAD_ARG : number);
        } else if (which == 2) {
            tell("twins(" + s + ", " + p + ")", program.twins(s, p), bad ? BAD_ARG : model.twins(s, p));
        } else if (which == 3) {
            tell("changed(" + s + ")", program.changed(s), Model.bad(s, 0) ? BAD_ARG : model.changed(s));
        } else if (which == 4) {
            tell("actions()", program.actions(), trial.done.size());
        } else if (which == 5) {
            tell("conflicts()", program.conflicts(), trial.conflicts.size());
        } else if (which == 6) {
            int i = pick(4) - 1;
            int what = pick(6) / 2;
            int found = i >= 0 && i < trial.done.size() && what < 2 ? trial.done.get(i)[what] : NONE;
            tell("action(" + i + ", " + what + ")", program.action(i, what), what < 2 ? found : BAD_ARG);
        } else {
            int i = pick(4) - 1;
            int found = i >= 0 && i < trial.conflicts.size() ? trial.conflicts.get(i) : NONE;
            tell("conflict(" + i + ")", program.conflict(i), found);
        }
    }

    private void tell(String call, long got, long want) {
        due(call, got, want);
        told.append(' ').append(call);
    }

    private void compareTrees() {
        for (int s = 0; s < 2; s++) {
            for (int p = 0; p < 84; p++) {
                Node node = get(model.trees[s], p);
                due("kind(" + s + ", " + p + ")", program.kind(s, p), kindOf(node));
                due("number(" + s + ", " + p + ")", program.number(s, p), kindOf(node) == 1 ? node.number : NONE);
            }
            due("size(" + s + ")", program.size(s), count(model.trees[s]) - 1);
            due("changed(" + s + ")", program.changed(s), model.changed(s));
        }
        for (int p = 0; p < 84; p++) {
            due("lastKind(" + p + ")", program.lastKind(p), kindOf(get(model.trees[2], p)));
        }
        due("same()", program.same() ? 1 : 0, equal(model.trees[0], model.trees[1]) ? 1 : 0);
    }

    private void compareTwins() {
        for (int s = 0; s < 2; s++) {
            for (int p = 0; p < 84; p++) {
                due("twins(" + s + ", " + p + ")", program.twins(s, p), model.twins(s, p));
            }
        }
    }

    private void comparePlans() {
        Model trial = model.trial();
        int actions = trial.done.size();
        due("actions()", program.actions(), actions);
        for (int i = 0; i < actions; i++) {
            due("action(" + i + ", 0)", program.action(i, 0), trial.done.get(i)[0]);
            due("action(" + i + ", 1)", program.action(i, 1), trial.done.get(i)[1]);
        }
        due("action(" + actions + ", 0)", program.action(actions, 0), NONE);
        int conflicts = trial.conflicts.size();
        due("conflicts()", program.conflicts(), conflicts);
        for (int i = 0; i < conflicts; i++) {
            due("conflict(" + i + ")", program.conflict(i), trial.conflicts.get(i));
        }
        due("conflict(" + conflicts + ")", program.conflict(conflicts), NONE);
    }

    private void go() {
        int calls = 1 + pick(CALLS);
        for (int i = 0; i < calls; i++) {
            anyCall();
        }
        if (pick(2) == 0) {
            compareTrees();
        } else {
            comparePlans();
            compareTwins();
        }
    }

    public static void main(String[] args) {
        for (int run = 0; run < RUNS && wrong == 0; run++) {
            new ModelTest(run).go();
        }
        System.out.println(wrong == 0 ? "all answers are as due" : wrong + " answers are not as due");
        if (wrong != 0) {
            System.exit(1);
        }
    }
}
