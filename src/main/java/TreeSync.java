/**
 * Two trees of files that are changed apart and brought into step.
 *
 * Six trees stand one behind the other in the same two arrays: the two sides, the last tree and the three kept ones.
 * A path that is no file has the number 0 there, so that two entries are equal when kind and number are.
 *
 * What stands in path p are the paths 4 p + 4 to 4 p + 7, for every p below 20. So all that stands below a path is one
 * row of neighbours for each level (1, 4 and 16 paths long), and no recursion is needed to go through it. Rows that
 * would begin beyond the last path have only nothing in them.
 */
public final class TreeSync {
    public static final int BAD_ARG = -1000000001;
    public static final int NO_PARENT = -1000000002;
    public static final int EXISTS = -1000000003;
    public static final int NONE = -1000000004;

    private static final int NAMES = 4;
    private static final int LEVELS = 3;
    private static final int SECOND_LEVEL = 4;
    private static final int THIRD_LEVEL = 20;
    private static final int PATHS = 84;
    private static final int NO_PATH = -1;

    private static final int NOTHING = 0;
    private static final int FILE = 1;
    private static final int FOLDER = 2;

    private static final int NO_SIDE = -1;
    private static final int LAST = 2;
    private static final int FIRST_KEPT = 3;
    private static final int PLACES = 3;
    private static final int ENTRIES = (FIRST_KEPT + PLACES) * PATHS;

    private static final int ALIKE = 0;
    private static final int BOTH_FOLDERS = 1;
    private static final int CHANGED_ON_0 = 2;
    private static final int CHANGED_ON_1 = 3;
    private static final int CONFLICT = 4;

    private final int[] kinds = new int[ENTRIES];
    private final int[] numbers = new int[ENTRIES];
    private final boolean[] kept = new boolean[PLACES];
    private int preferred = NO_SIDE;

    private final int[] actionPaths = new int[PATHS];
    private final int[] actionSides = new int[PATHS];
    private int actionCount = 0;
    private final int[] conflictPaths = new int[PATHS];
    private int conflictCount = 0;

    public TreeSync() {
    }

    public int write(int s, int p, int x) {
        if (!isSide(s) || !isPath(p)) {
            return BAD_ARG;
        }
        if (!standsInFolder(s, p)) {
            return NO_PARENT;
        }
        int before = kindAt(s, p);
        if (before == FOLDER) {
            return EXISTS;
        }
        setEntry(s, p, FILE, x);
        return before == FILE ? 1 : 0;
    }

    public int folder(int s, int p) {
        if (!isSide(s) || !isPath(p)) {
            return BAD_ARG;
        }
        if (!standsInFolder(s, p)) {
            return NO_PARENT;
        }
        if (kindAt(s, p) != NOTHING) {
            return EXISTS;
        }
        setEntry(s, p, FOLDER, 0);
        return 0;
    }

    public int remove(int s, int p) {
        if (!isSide(s) || !isPath(p)) {
            return BAD_ARG;
        }
        if (kindAt(s, p) == NOTHING) {
            return NONE;
        }
        return clearContent(s, p);
    }

    public int move(int s, int p, int q) {
        int refusal = refusalToPlace(s, p, q);
        if (refusal != 0) {
            return refusal;
        }
        copyContent(s, p, s, q);
        clearContent(s, p);
        return 0;
    }

    public int copy(int s, int p, int q) {
        int refusal = refusalToPlace(s, p, q);
        if (refusal != 0) {
            return refusal;
        }
        copyContent(s, p, s, q);
        return 0;
    }

    public int kind(int s, int p) {
        if (!isSide(s) || !isPath(p)) {
            return BAD_ARG;
        }
        return kindAt(s, p);
    }

    public int number(int s, int p) {
        if (!isSide(s) || !isPath(p)) {
            return BAD_ARG;
        }
        if (kindAt(s, p) != FILE) {
            return NONE;
        }
        return numberAt(s, p);
    }

    public int lastKind(int p) {
        if (!isPath(p)) {
            return BAD_ARG;
        }
        return kindAt(LAST, p);
    }

    public int size(int s) {
        if (!isSide(s)) {
            return BAD_ARG;
        }
        return sizeOfTree(s);
    }

    public int changed(int s) {
        if (!isSide(s)) {
            return BAD_ARG;
        }
        return differences(s, LAST);
    }

    public int twins(int s, int p) {
        if (!isSide(s) || !isPath(p)) {
            return BAD_ARG;
        }
        if (kindAt(s, p) == NOTHING) {
            return 0;
        }
        int count = 0;
        for (int q = 0; q < PATHS; q++) {
            if (q != p && sameContent(s, p, s, q)) {
                count++;
            }
        }
        return count;
    }

    public boolean same() {
        return differences(0, 1) == 0;
    }

    public int actions() {
        plan();
        return actionCount;
    }

    public int action(int i, int what) {
        if (what != 0 && what != 1) {
            return BAD_ARG;
        }
        plan();
        if (i < 0 || i >= actionCount) {
            return NONE;
        }
        return what == 0 ? actionPaths[i] : actionSides[i];
    }

    public int conflicts() {
        plan();
        return conflictCount;
    }

    public int conflict(int i) {
        plan();
        if (i < 0 || i >= conflictCount) {
            return NONE;
        }
        return conflictPaths[i];
    }

    public int prefer(int s) {
        if (!isSide(s) && s != NO_SIDE) {
            return BAD_ARG;
        }
        preferred = s;
        return 0;
    }

    public int step() {
        // Each path gets something at most once, so this many actions are never reached.
        return carryOut(PATHS);
    }

    public int stepSome(int n) {
        if (n < 0) {
            return BAD_ARG;
        }
        return carryOut(n);
    }

    public int keep(int s, int k) {
        if (!isSide(s) || !isPlace(k)) {
            return BAD_ARG;
        }
        copyTree(s, FIRST_KEPT + k);
        kept[k] = true;
        return sizeOfTree(s);
    }

    public int restore(int s, int k) {
        if (!isSide(s) || !isPlace(k)) {
            return BAD_ARG;
        }
        if (!kept[k]) {
            return NONE;
        }
        copyTree(FIRST_KEPT + k, s);
        return sizeOfTree(s);
    }

    private static boolean isSide(int s) {
        return s == 0 || s == 1;
    }

    private static boolean isPath(int p) {
        return p >= 0 && p < PATHS;
    }

    private static boolean isPlace(int k) {
        return k >= 0 && k < PLACES;
    }

    /** Also the first of a row's next row; PATHS or more where nothing can stand. */
    private static int firstInside(int p) {
        return NAMES * p + NAMES;
    }

    private static int parentOf(int p) {
        return p < SECOND_LEVEL ? NO_PATH : p / NAMES - 1;
    }

    private static int levelOf(int p) {
        if (p < SECOND_LEVEL) {
            return 0;
        }
        return p < THIRD_LEVEL ? 1 : 2;
    }

    private static boolean standsBelow(int q, int p) {
        int above = q;
        for (int level = 1; level < LEVELS && above >= SECOND_LEVEL; level++) {
            above = parentOf(above);
            if (above == p) {
                return true;
            }
        }
        return false;
    }

    /** The path that stepping comes to when it is through with p and all that stands in p. */
    private static int pathAfter(int p) {
        int here = p;
        for (int level = 1; level < LEVELS && here >= SECOND_LEVEL && isLastName(here); level++) {
            here = parentOf(here);
        }
        return isLastName(here) ? NO_PATH : here + 1;
    }

    private static boolean isLastName(int p) {
        return p % NAMES == NAMES - 1;
    }

    private int kindAt(int tree, int p) {
        return p >= 0 && p < PATHS ? kinds[tree * PATHS + p] : NOTHING;
    }

    private int numberAt(int tree, int p) {
        return p >= 0 && p < PATHS ? numbers[tree * PATHS + p] : 0;
    }

    private void setEntry(int tree, int p, int kind, int number) {
        if (p >= 0 && p < PATHS) {
            kinds[tree * PATHS + p] = kind;
            numbers[tree * PATHS + p] = number;
        }
    }

    private boolean sameEntry(int tree, int p, int otherTree, int q) {
        return kindAt(tree, p) == kindAt(otherTree, q) && numberAt(tree, p) == numberAt(otherTree, q);
    }

    private boolean sameContent(int tree, int p, int otherTree, int q) {
        int row = p;
        int otherRow = q;
        int width = 1;
        for (int level = 0; level < LEVELS; level++) {
            for (int i = 0; i < width; i++) {
                if (!sameEntry(tree, row + i, otherTree, otherRow + i)) {
                    return false;
                }
            }
            row = firstInside(row);
            otherRow = firstInside(otherRow);
            width *= NAMES;
        }
        return true;
    }

    private void copyContent(int tree, int p, int otherTree, int q) {
        int row = p;
        int otherRow = q;
        int width = 1;
        for (int level = 0; level < LEVELS; level++) {
            for (int i = 0; i < width; i++) {
                int kind = kindAt(tree, row + i);
                int number = numberAt(tree, row + i);
                setEntry(otherTree, otherRow + i, kind, number);
            }
            row = firstInside(row);
            otherRow = firstInside(otherRow);
            width *= NAMES;
        }
    }

    /** Answers how many paths that were not nothing are nothing now. */
    private int clearContent(int tree, int p) {
        int cleared = 0;
        int row = p;
        int width = 1;
        for (int level = 0; level < LEVELS; level++) {
            for (int i = 0; i < width; i++) {
                if (kindAt(tree, row + i) != NOTHING) {
                    setEntry(tree, row + i, NOTHING, 0);
                    cleared++;
                }
            }
            row = firstInside(row);
            width *= NAMES;
        }
        return cleared;
    }

    /** How many levels below p have something in them. */
    private int levelsBelow(int tree, int p) {
        int deepest = 0;
        int row = p;
        int width = 1;
        for (int level = 0; level < LEVELS; level++) {
            for (int i = 0; i < width; i++) {
                if (kindAt(tree, row + i) != NOTHING) {
                    deepest = level;
                }
            }
            row = firstInside(row);
            width *= NAMES;
        }
        return deepest;
    }

    private boolean standsInFolder(int tree, int p) {
        int parent = parentOf(p);
        return parent == NO_PATH || kindAt(tree, parent) == FOLDER;
    }

    /** 0 if the content of p may come to q. */
    private int refusalToPlace(int s, int p, int q) {
        if (!isSide(s) || !isPath(p) || !isPath(q)) {
            return BAD_ARG;
        }
        if (kindAt(s, p) == NOTHING) {
            return NONE;
        }
        if (!standsInFolder(s, q)) {
            return NO_PARENT;
        }
        if (kindAt(s, q) != NOTHING) {
            return EXISTS;
        }
        if (standsBelow(q, p) || levelOf(q) + levelsBelow(s, p) >= LEVELS) {
            return BAD_ARG;
        }
        return 0;
    }

    private int sizeOfTree(int tree) {
        int count = 0;
        for (int p = 0; p < PATHS; p++) {
            if (kindAt(tree, p) != NOTHING) {
                count++;
            }
        }
        return count;
    }

    private int differences(int tree, int otherTree) {
        int count = 0;
        for (int p = 0; p < PATHS; p++) {
            if (!sameEntry(tree, p, otherTree, p)) {
                count++;
            }
        }
        return count;
    }

    private void copyTree(int tree, int otherTree) {
        for (int p = 0; p < PATHS; p++) {
            int kind = kindAt(tree, p);
            int number = numberAt(tree, p);
            setEntry(otherTree, p, kind, number);
        }
    }

    private int findingAt(int p) {
        if (sameContent(0, p, 1, p)) {
            return ALIKE;
        }
        if (kindAt(0, p) == FOLDER && kindAt(1, p) == FOLDER) {
            return BOTH_FOLDERS;
        }
        if (sameContent(0, p, LAST, p)) {
            return CHANGED_ON_1;
        }
        if (sameContent(1, p, LAST, p)) {
            return CHANGED_ON_0;
        }
        return CONFLICT;
    }

    /** The side that gets the other one's content, or NO_SIDE if the finding asks for no action. */
    private int receiverFor(int finding) {
        if (finding == CHANGED_ON_1) {
            return 0;
        }
        if (finding == CHANGED_ON_0) {
            return 1;
        }
        if (finding == CONFLICT && preferred != NO_SIDE) {
            return 1 - preferred;
        }
        return NO_SIDE;
    }

    /**
     * Lists what stepping would do. It needs no trial copy of the trees: what stepping does at a path changes nothing
     * that it looks at later. (Where the last tree gets a folder nothing stands in it, as nothing did before.)
     */
    private void plan() {
        actionCount = 0;
        conflictCount = 0;
        int p = 0;
        for (int seen = 0; seen < PATHS && isPath(p); seen++) {
            int finding = findingAt(p);
            int receiver = receiverFor(finding);
            if (receiver != NO_SIDE) {
                actionPaths[actionCount] = p;
                actionSides[actionCount] = receiver;
                actionCount++;
            }
            if (finding == CONFLICT) {
                conflictPaths[conflictCount] = p;
                conflictCount++;
            }
            p = finding == BOTH_FOLDERS ? firstInside(p) : pathAfter(p);
        }
    }

    private int carryOut(int limit) {
        int done = 0;
        int p = 0;
        for (int seen = 0; seen < PATHS && isPath(p); seen++) {
            int finding = findingAt(p);
            int receiver = receiverFor(finding);
            if (receiver != NO_SIDE) {
                if (done == limit) {
                    return done;
                }
                copyContent(1 - receiver, p, receiver, p);
                copyContent(1 - receiver, p, LAST, p);
                done++;
            } else if (finding == ALIKE) {
                copyContent(0, p, LAST, p);
            } else if (finding == BOTH_FOLDERS) {
                // What stands in it is left as it is: nothing does unless it was a folder already.
                setEntry(LAST, p, FOLDER, 0);
            }
            p = finding == BOTH_FOLDERS ? firstInside(p) : pathAfter(p);
        }
        return done;
    }
}
