/** Each sentence of the promises 1 to 23 that names a boundary case, with a test of its own. */
public final class BoundaryTest {
    private static final int BAD_ARG = -1000000001;
    private static final int NO_PARENT = -1000000002;
    private static final int EXISTS = -1000000003;
    private static final int NONE = -1000000004;
    private static final int MIN = Integer.MIN_VALUE;
    private static final int MAX = Integer.MAX_VALUE;
    private static final int[] NO_PLACES = {MIN, -2, -1, 3, 4, 5, 83, 84, MAX};

    private interface Test {
        void run();
    }

    private static String sentence = "";
    private static int wrong = 0;

    private static void due(long got, long want) {
        if (got != want) {
            tell("answered " + got + ", due is " + want);
        }
    }

    private static void due(boolean got, boolean want) {
        if (got != want) {
            tell("answered " + got + ", due is " + want);
        }
    }

    private static void tell(String what) {
        wrong++;
        if (wrong > 40) {
            return;
        }
        int line = 0;
        for (StackTraceElement element : new Throwable().getStackTrace()) {
            if (line == 0 && !element.getMethodName().matches("tell|due")) {
                line = element.getLineNumber();
            }
        }
        System.out.println(sentence + ", line " + line + ": " + what);
    }

    private static void holds(String words, Test test) {
        sentence = words;
        try {
            test.run();
        } catch (RuntimeException | Error thrown) {
            tell("threw " + thrown);
        }
    }

    private static int inside(int p, int n) {
        return p < 4 ? 4 + 4 * p + n : 20 + 4 * (p - 4) + n;
    }

    private static int above(int p) {
        return p < 20 ? (p - 4) / 4 : 4 + (p - 20) / 4;
    }

    /** A path in the root that is neither p nor one that p stands in. */
    private static int otherRoot(int p) {
        int root = p < 4 ? p : p < 20 ? above(p) : above(above(p));
        return (root + 1) % 4;
    }

    private static void makeAbove(TreeSync x, int s, int p) {
        if (p >= 20) {
            x.folder(s, above(above(p)));
        }
        if (p >= 4) {
            x.folder(s, above(p));
        }
    }

    /** A side full of folders. */
    private static void fillUp(TreeSync x, int s) {
        for (int p = 0; p < 84; p++) {
            due(x.folder(s, p), 0);
        }
    }

    // Promise 1

    private static void newTreesAreNothing() {
        TreeSync x = new TreeSync();
        for (int p = 0; p < 84; p++) {
            due(x.kind(0, p), 0);
            due(x.number(0, p), NONE);
            due(x.kind(1, p), 0);
            due(x.number(1, p), NONE);
            due(x.lastKind(p), 0);
        }
        due(x.size(0), 0);
        due(x.size(1), 0);
    }

    private static void newObjectsShareNothing() {
        TreeSync x = new TreeSync();
        due(x.write(0, 0, 1), 0);
        due(x.step(), 1);
        due(x.write(0, 0, 2), 1);
        due(x.write(1, 0, 3), 1);
        due(x.keep(0, 0), 1);
        due(x.prefer(1), 0);
        due(x.conflicts(), 1);
        TreeSync y = new TreeSync();
        due(y.size(0), 0);
        due(y.size(1), 0);
        due(y.lastKind(0), 0);
        due(y.restore(0, 0), NONE);
        due(y.actions(), 0);
        due(x.conflicts(), 1);
        due(x.action(0, 1), 0);
    }

    private static void noSideIsPreferredAtFirst() {
        TreeSync x = new TreeSync();
        due(x.write(0, 0, 1), 0);
        due(x.write(1, 0, 2), 0);
        due(x.conflicts(), 1);
        due(x.actions(), 0);
        due(x.step(), 0);
        due(x.number(0, 0), 1);
        due(x.number(1, 0), 2);
    }

    private static void nothingIsKeptAtFirst() {
        for (int k = 0; k < 3; k++) {
            TreeSync x = new TreeSync();
            due(x.restore(0, k), NONE);
            due(x.restore(1, k), NONE);
        }
    }

    // Promises 2 and 3

    private static int make(TreeSync x, boolean file, int s, int p) {
        return file ? x.write(s, p, 1) : x.folder(s, p);
    }

    private static void noParentWhereNothingIs(boolean file) {
        for (int p = 4; p < 84; p++) {
            TreeSync x = new TreeSync();
            due(make(x, file, 0, p), NO_PARENT);
            makeAbove(x, 1, p);
            due(make(x, file, 0, p), NO_PARENT);
            due(x.size(0), 0);
            makeAbove(x, 0, p);
            due(make(x, file, 0, p), 0);
            due(x.remove(0, above(p)), 2);
            due(make(x, file, 0, p), NO_PARENT);
        }
    }

    private static void noParentWhereAFileIs(boolean file) {
        for (int p = 4; p < 84; p++) {
            TreeSync x = new TreeSync();
            makeAbove(x, 1, above(p));
            due(x.write(1, above(p), 2), 0);
            due(make(x, file, 1, p), NO_PARENT);
            due(x.kind(1, p), 0);
            due(x.number(1, above(p)), 2);
        }
    }

    private static void existsWhereAFolderIs(boolean file) {
        for (int p = 0; p < 84; p++) {
            TreeSync x = new TreeSync();
            makeAbove(x, 0, p);
            due(x.folder(0, p), 0);
            due(make(x, file, 0, p), EXISTS);
            due(x.kind(0, p), 2);
            if (p < 20) {
                due(x.write(0, inside(p, 3), 4), 0);
                due(make(x, file, 0, p), EXISTS);
                due(x.number(0, inside(p, 3)), 4);
            }
        }
    }

    private static void existsWhereAFileIs() {
        for (int p = 0; p < 84; p++) {
            TreeSync x = new TreeSync();
            makeAbove(x, 0, p);
            due(x.write(0, p, 0), 0);
            due(x.folder(0, p), EXISTS);
            due(x.kind(0, p), 1);
            due(x.number(0, p), 0);
        }
    }

    private static void writeTellsWhetherItWasAFile() {
        for (int p = 0; p < 84; p++) {
            TreeSync x = new TreeSync();
            makeAbove(x, 0, p);
            makeAbove(x, 1, p);
            due(x.write(0, p, 0), 0);
            due(x.write(0, p, 0), 1);
            due(x.write(0, p, MIN), 1);
            due(x.number(0, p), MIN);
            due(x.write(1, p, MAX), 0);
            due(x.remove(0, p), 1);
            due(x.write(0, p, 5), 0);
            due(x.number(1, p), MAX);
            due(x.remove(0, p), 1);
            due(x.folder(0, p), 0);
            due(x.remove(0, p), 1);
            due(x.write(0, p, 6), 0);
        }
    }

    private static void nothingStandsInANewFolder() {
        for (int p = 0; p < 20; p++) {
            TreeSync x = new TreeSync();
            makeAbove(x, 1, p);
            for (int round = 0; round < 2; round++) {
                due(x.folder(1, p), 0);
                for (int n = 0; n < 4; n++) {
                    due(x.kind(1, inside(p, n)), 0);
                    due(x.write(1, inside(p, n), 1), 0);
                }
                due(x.remove(1, p), 5);
            }
        }
    }

    // Promise 4

    private static void removeNone() {
        for (int p = 0; p < 84; p++) {
            TreeSync x = new TreeSync();
            due(x.remove(0, p), NONE);
            makeAbove(x, 0, p);
            due(x.remove(0, p), NONE);
            due(x.write(0, p, 1), 0);
            due(x.remove(1, p), NONE);
            due(x.remove(0, p), 1);
            due(x.remove(0, p), NONE);
        }
    }

    private static void removeCountsWhatWasThere() {
        for (int p = 0; p < 84; p++) {
            TreeSync x = new TreeSync();
            fillUp(x, 0);
            int full = p < 4 ? 21 : p < 20 ? 5 : 1;
            due(x.remove(0, p), full);
            due(x.size(0), 84 - full);
            due(x.remove(0, p), NONE);
            due(x.folder(0, p), 0);
            due(x.remove(0, p), 1);
        }
    }

    private static void removeDoesNotCountNothing() {
        TreeSync x = new TreeSync();
        fillUp(x, 1);
        due(x.remove(1, 83), 1);
        due(x.remove(1, 16), 5);
        due(x.remove(1, 72), 1);
        due(x.remove(1, 3), 14);
        due(x.size(1), 63);
    }

    private static void removeLeavesTheRest() {
        TreeSync x = new TreeSync();
        fillUp(x, 0);
        due(x.step(), 4);
        due(x.remove(0, 2), 21);
        due(x.size(1), 84);
        due(x.changed(0), 21);
        due(x.changed(1), 0);
        for (int p = 0; p < 84; p++) {
            boolean below = p == 2 || p >= 12 && p < 16 || p >= 52 && p < 68;
            due(x.kind(0, p), below ? 0 : 2);
        }
    }

    // Promises 5 and 6

    private static int place(TreeSync x, boolean moving, int s, int p, int q) {
        return moving ? x.move(s, p, q) : x.copy(s, p, q);
    }

    private static void placeToNoPath(boolean moving) {
        for (int q : new int[] {MIN, -84, -2, -1, 84, 85, 168, MAX}) {
            TreeSync x = new TreeSync();
            due(place(x, moving, 0, 0, q), BAD_ARG);
            due(x.folder(0, 0), 0);
            due(place(x, moving, 0, 0, q), BAD_ARG);
            due(place(x, moving, 0, 1, q), BAD_ARG);
            due(place(x, moving, 1, 83, q), BAD_ARG);
            due(x.size(0), 1);
        }
    }

    private static void placeNone(boolean moving) {
        TreeSync x = new TreeSync();
        due(x.folder(0, 0), 0);
        due(x.write(0, 4, 1), 0);
        due(x.write(1, 1, 1), 0);
        for (int p : new int[] {1, 2, 3, 5, 8, 19, 20, 24, 83}) {
            due(place(x, moving, 0, p, 6), NONE);
            due(place(x, moving, 0, p, 12), NONE);
            due(place(x, moving, 0, p, 83), NONE);
            due(place(x, moving, 0, p, 0), NONE);
            due(place(x, moving, 0, p, 4), NONE);
            due(place(x, moving, 0, p, p), NONE);
        }
        due(place(x, moving, 0, 1, 8), NONE);
        due(place(x, moving, 0, 5, 24), NONE);
        due(x.size(0), 2);
    }

    private static void placeNoParent(boolean moving) {
        for (int q = 4; q < 84; q++) {
            TreeSync x = new TreeSync();
            int p = otherRoot(q);
            due(x.write(0, p, 1), 0);
            makeAbove(x, 1, q);
            due(place(x, moving, 0, p, q), NO_PARENT);
            if (q >= 20) {
                due(x.folder(0, above(above(q))), 0);
                due(place(x, moving, 0, p, q), NO_PARENT);
            }
            due(x.write(0, above(q), 2), 0);
            due(place(x, moving, 0, p, q), NO_PARENT);
            due(x.number(0, p), 1);
        }
    }

    private static void placeNoParentBeforeBadArg(boolean moving) {
        TreeSync x = new TreeSync();
        due(x.folder(0, 0), 0);
        due(place(x, moving, 0, 0, 20), NO_PARENT);
        due(place(x, moving, 0, 0, 35), NO_PARENT);
        due(x.folder(0, 4), 0);
        due(x.write(0, 20, 1), 0);
        due(place(x, moving, 0, 0, 8), NO_PARENT);
        due(place(x, moving, 0, 0, 36), NO_PARENT);
        due(place(x, moving, 0, 4, 24), NO_PARENT);
        due(x.write(0, 1, 1), 0);
        due(place(x, moving, 0, 1, 8), NO_PARENT);
        due(place(x, moving, 0, 1, 36), NO_PARENT);
        due(x.size(0), 4);
    }

    private static void placeExists(boolean moving) {
        for (int q = 0; q < 84; q++) {
            TreeSync x = new TreeSync();
            makeAbove(x, 0, q);
            int p = otherRoot(q);
            due(x.write(0, p, 1), 0);
            due(x.write(0, q, 2), 0);
            due(place(x, moving, 0, p, q), EXISTS);
            due(place(x, moving, 0, q, q), EXISTS);
            due(x.number(0, q), 2);
            due(x.remove(0, q), 1);
            due(x.folder(0, q), 0);
            due(place(x, moving, 0, p, q), EXISTS);
            due(place(x, moving, 0, q, q), EXISTS);
            due(x.remove(0, q), 1);
            due(place(x, moving, 0, p, q), 0);
        }
    }

    private static void placeExistsBeforeBadArg(boolean moving) {
        TreeSync x = new TreeSync();
        due(x.folder(0, 0), 0);
        due(x.folder(0, 4), 0);
        due(x.folder(0, 20), 0);
        due(place(x, moving, 0, 0, 4), EXISTS);
        due(place(x, moving, 0, 0, 20), EXISTS);
        due(place(x, moving, 0, 4, 20), EXISTS);
        due(place(x, moving, 0, 20, 0), EXISTS);
        due(place(x, moving, 0, 20, 4), EXISTS);
        due(x.folder(0, 1), 0);
        due(x.folder(0, 8), 0);
        due(x.write(0, 36, 1), 0);
        due(place(x, moving, 0, 0, 8), EXISTS);
        due(place(x, moving, 0, 0, 36), EXISTS);
        due(place(x, moving, 0, 4, 36), EXISTS);
        due(x.size(0), 6);
    }

    /** Every path that stands in p, while p is else an empty folder: also that does not fit into itself. */
    private static void placeIntoItself(boolean moving) {
        for (int p = 0; p < 20; p++) {
            TreeSync x = new TreeSync();
            makeAbove(x, 0, p);
            due(x.folder(0, p), 0);
            for (int n = 0; n < 4; n++) {
                due(place(x, moving, 0, p, inside(p, n)), BAD_ARG);
            }
            due(x.size(0), p < 4 ? 1 : 2);
            int beside = p < 4 ? (p + 1) % 4 : 4 * (p / 4) + (p + 1) % 4;
            due(x.folder(0, beside), 0);
            due(place(x, moving, 0, p, inside(beside, 0)), 0);
        }
    }

    private static void placeDeepIntoItself(boolean moving) {
        for (int p = 0; p < 4; p++) {
            for (int n = 0; n < 4; n++) {
                TreeSync x = new TreeSync();
                due(x.folder(1, p), 0);
                due(x.folder(1, inside(p, n)), 0);
                for (int m = 0; m < 4; m++) {
                    due(place(x, moving, 1, p, inside(inside(p, n), m)), BAD_ARG);
                }
                due(x.size(1), 2);
            }
        }
    }

    /** What stands in the folder has each name in turn and is a file or a folder. */
    private static void placeFullFolderFrom20On(boolean moving) {
        for (int q : new int[] {20, 21, 23, 24, 51, 52, 80, 83}) {
            int root = otherRoot(q);
            for (int i = 0; i < 16; i++) {
                int p = i < 8 ? root : inside(root, i % 4);
                TreeSync x = new TreeSync();
                makeAbove(x, 0, q);
                makeAbove(x, 0, p);
                due(x.folder(0, p), 0);
                due(make(x, i / 4 % 2 == 0, 0, inside(p, i % 4)), 0);
                int size = x.size(0);
                due(place(x, moving, 0, p, q), BAD_ARG);
                due(x.size(0), size);
                due(x.remove(0, inside(p, i % 4)), 1);
                due(place(x, moving, 0, p, q), 0);
                due(x.kind(0, q), 2);
            }
        }
    }

    private static void placeFullFolderBelow20(boolean moving) {
        for (int q = 0; q < 20; q++) {
            int p = otherRoot(q);
            TreeSync x = new TreeSync();
            makeAbove(x, 0, q);
            due(x.folder(0, p), 0);
            due(x.write(0, inside(p, 0), 1), 0);
            due(x.folder(0, inside(p, 3)), 0);
            due(place(x, moving, 0, p, q), 0);
            due(x.kind(0, q), 2);
            due(x.number(0, inside(q, 0)), 1);
            due(x.kind(0, inside(q, 1)), 0);
            due(x.kind(0, inside(q, 2)), 0);
            due(x.kind(0, inside(q, 3)), 2);
            due(x.kind(0, p), moving ? 0 : 2);
        }
    }

    private static void placeTwiceFullFolderFrom4On(boolean moving) {
        for (int q = 4; q < 20; q++) {
            for (int i = 0; i < 16; i++) {
                int p = otherRoot(q);
                TreeSync x = new TreeSync();
                makeAbove(x, 1, q);
                due(x.folder(1, p), 0);
                due(x.folder(1, inside(p, i / 4)), 0);
                due(make(x, i % 2 == 0, 1, inside(inside(p, i / 4), i % 4)), 0);
                due(place(x, moving, 1, p, q), BAD_ARG);
                due(x.size(1), 4);
                due(x.remove(1, inside(inside(p, i / 4), i % 4)), 1);
                due(place(x, moving, 1, p, q), 0);
                due(x.kind(1, inside(q, i / 4)), 2);
            }
        }
    }

    private static void placeTwiceFullFolderBelow4(boolean moving) {
        for (int p = 0; p < 4; p++) {
            int q = 3 - p;
            TreeSync x = new TreeSync();
            due(x.folder(0, p), 0);
            for (int n = 0; n < 4; n++) {
                due(x.folder(0, inside(p, n)), 0);
                for (int m = 0; m < 4; m++) {
                    due(x.write(0, inside(inside(p, n), m), 4 * n + m), 0);
                }
            }
            due(place(x, moving, 0, p, q), 0);
            for (int i = 0; i < 16; i++) {
                due(x.number(0, inside(inside(q, i / 4), i % 4)), i);
                due(x.number(0, inside(inside(p, i / 4), i % 4)), moving ? NONE : i);
            }
            due(x.size(0), moving ? 21 : 42);
        }
    }

    /** A file, or a folder in which nothing stands, from every path to every path that is not above or in it. */
    private static void placeSmallThings(boolean moving) {
        for (int p = 0; p < 84; p++) {
            for (int q = 0; q < 84; q++) {
                if (p == q || standsIn(p, q) || standsIn(q, p)) {
                    continue;
                }
                int kind = 1 + (p + q) % 2;
                TreeSync x = new TreeSync();
                makeAbove(x, 0, p);
                makeAbove(x, 0, q);
                due(make(x, kind == 1, 0, p), 0);
                int size = x.size(0);
                due(place(x, moving, 0, p, q), 0);
                due(x.size(0), moving ? size : size + 1);
                due(x.kind(0, p), moving ? 0 : kind);
                due(x.kind(0, q), kind);
            }
        }
    }

    private static boolean standsIn(int q, int p) {
        return q >= 4 && (above(q) == p || q >= 20 && above(above(q)) == p);
    }

    private static void placeTouchesOneSide(boolean moving) {
        TreeSync x = new TreeSync();
        due(x.folder(0, 0), 0);
        due(x.write(0, 7, 1), 0);
        due(x.step(), 1);
        due(place(x, moving, 1, 0, 3), 0);
        due(x.kind(0, 3), 0);
        due(x.number(0, 7), 1);
        due(x.lastKind(0), 2);
        due(x.lastKind(7), 1);
        due(x.lastKind(3), 0);
        due(x.kind(1, 7), moving ? 0 : 1);
        due(x.number(1, 19), 1);
        due(x.changed(1), moving ? 4 : 2);
    }

    private static void copiesGoTheirOwnWays() {
        TreeSync x = new TreeSync();
        due(x.folder(0, 0), 0);
        due(x.write(0, 7, 1), 0);
        due(x.copy(0, 0, 3), 0);
        due(x.write(0, 7, 2), 1);
        due(x.number(0, 19), 1);
        due(x.remove(0, 0), 2);
        due(x.number(0, 19), 1);
    }

    // Promises 7 to 9

    private static void kindTellsThree() {
        for (int p = 0; p < 84; p++) {
            TreeSync x = new TreeSync();
            makeAbove(x, 1, p);
            due(x.kind(1, p), 0);
            due(x.write(1, p, 0), 0);
            due(x.kind(1, p), 1);
            due(x.kind(0, p), 0);
            due(x.remove(1, p), 1);
            due(x.folder(1, p), 0);
            due(x.kind(1, p), 2);
        }
    }

    private static void numberOfNoFile() {
        for (int p = 0; p < 84; p++) {
            TreeSync x = new TreeSync();
            makeAbove(x, 0, p);
            due(x.number(0, p), NONE);
            due(x.folder(0, p), 0);
            due(x.number(0, p), NONE);
            due(x.remove(0, p), 1);
            due(x.write(0, p, 9), 0);
            due(x.number(0, p), 9);
            due(x.number(1, p), NONE);
            due(x.remove(0, p), 1);
            due(x.number(0, p), NONE);
        }
    }

    private static void lastKindTellsThree() {
        for (int p = 0; p < 84; p++) {
            TreeSync x = new TreeSync();
            makeAbove(x, 0, p);
            due(x.write(0, p, 0), 0);
            due(x.lastKind(p), 0);
            x.step();
            due(x.lastKind(p), 1);
            due(x.remove(1, p), 1);
            due(x.folder(1, p), 0);
            due(x.lastKind(p), 1);
            due(x.step(), 1);
            due(x.lastKind(p), 2);
            due(x.remove(0, p), 1);
            due(x.step(), 1);
            due(x.lastKind(p), 0);
        }
        TreeSync y = new TreeSync();
        due(y.lastKind(-1), BAD_ARG);
        due(y.lastKind(84), BAD_ARG);
        due(y.lastKind(MIN), BAD_ARG);
        due(y.lastKind(MAX), BAD_ARG);
    }

    // Promises 10 to 13

    private static void sizesFrom0To84() {
        for (int s = 0; s < 2; s++) {
            TreeSync x = new TreeSync();
            due(x.size(s), 0);
            fillUp(x, s);
            due(x.size(s), 84);
            due(x.size(1 - s), 0);
            due(x.remove(s, 83), 1);
            due(x.size(s), 83);
            due(x.write(s, 83, 0), 0);
            due(x.size(s), 84);
            due(x.write(s, 83, 1), 1);
            due(x.size(s), 84);
        }
    }

    private static void changedFrom0To84() {
        for (int s = 0; s < 2; s++) {
            TreeSync x = new TreeSync();
            due(x.changed(s), 0);
            fillUp(x, s);
            due(x.changed(s), 84);
            due(x.changed(1 - s), 0);
            due(x.step(), 4);
            due(x.changed(s), 0);
            for (int p = 0; p < 4; p++) {
                due(x.remove(1 - s, p), 21);
            }
            due(x.changed(1 - s), 84);
            due(x.changed(s), 0);
        }
    }

    /** One path, which was nothing, a folder or a file with the number 0, becomes each of these or another file. */
    private static void changedByWhatItIs() {
        for (int p : new int[] {0, 3, 4, 19, 20, 83}) {
            for (int before = 0; before < 4; before++) {
                for (int after = 0; after < 4; after++) {
                    TreeSync x = new TreeSync();
                    makeAbove(x, 0, p);
                    x.step();
                    put(x, p, before);
                    due(x.step(), before == 0 ? 0 : 1);
                    due(x.changed(0), 0);
                    due(before == 0 ? 1 : x.remove(0, p), 1);
                    put(x, p, after);
                    due(x.changed(0), before == after ? 0 : 1);
                    due(x.changed(1), 0);
                }
            }
        }
    }

    private static void put(TreeSync x, int p, int what) {
        if (what == 1) {
            due(x.folder(0, p), 0);
        } else if (what > 1) {
            due(x.write(0, p, what - 2), 0);
        }
    }

    private static void changedCountsPathsNotContents() {
        TreeSync x = new TreeSync();
        fillUp(x, 0);
        due(x.step(), 4);
        due(x.remove(0, 83), 1);
        due(x.changed(0), 1);
        due(x.write(0, 83, 0), 0);
        due(x.changed(0), 1);
        due(x.remove(0, 19), 5);
        due(x.changed(0), 5);
        due(x.write(0, 19, 0), 0);
        due(x.changed(0), 5);
    }

    private static void twinsOfNothing() {
        TreeSync x = new TreeSync();
        for (int p = 0; p < 84; p++) {
            due(x.twins(0, p), 0);
            due(x.twins(1, p), 0);
        }
        due(x.folder(0, 0), 0);
        due(x.twins(0, 4), 0);
        due(x.twins(0, 83), 0);
        due(x.twins(1, 0), 0);
    }

    private static void twinsAreOtherPaths(int s) {
        for (int p = 0; p < 84; p++) {
            TreeSync x = new TreeSync();
            makeAbove(x, s, p);
            due(x.write(s, p, 7), 0);
            due(x.twins(s, p), 0);
            makeAbove(x, 1 - s, p);
            due(x.write(1 - s, p, 7), 0);
            due(x.twins(s, p), 0);
            due(x.write(s, otherRoot(p), 7), 0);
            due(x.twins(s, p), 1);
            due(x.twins(1 - s, p), 0);
        }
    }

    private static void twinsUpTo63(int s) {
        TreeSync x = new TreeSync();
        fillUp(x, s);
        for (int p = 0; p < 84; p++) {
            due(x.twins(s, p), p < 4 ? 3 : p < 20 ? 15 : 63);
            due(x.twins(1 - s, p), 0);
        }
        due(x.remove(s, 83), 1);
        due(x.twins(s, 20), 62);
        due(x.twins(s, 19), 0);
        due(x.twins(s, 4), 14);
        due(x.twins(s, 3), 0);
        due(x.twins(s, 0), 2);
    }

    private static void twinsByNumber(int s) {
        TreeSync x = new TreeSync();
        due(x.write(s, 0, 0), 0);
        due(x.folder(s, 1), 0);
        due(x.write(s, 2, 0), 0);
        due(x.twins(s, 0), 1);
        due(x.twins(s, 1), 0);
        due(x.write(s, 2, 1), 1);
        due(x.twins(s, 0), 0);
        due(x.write(s, 11, 0), 0);
        due(x.twins(s, 0), 1);
    }

    private static void sameAtAllPaths() {
        for (int p = 0; p < 84; p++) {
            TreeSync x = new TreeSync();
            makeAbove(x, 0, p);
            makeAbove(x, 1, p);
            due(x.same(), true);
            due(x.write(0, p, 0), 0);
            due(x.same(), false);
            due(x.write(1, p, 1), 0);
            due(x.same(), false);
            due(x.write(1, p, 0), 1);
            due(x.same(), true);
            due(x.remove(0, p), 1);
            due(x.same(), false);
            due(x.folder(0, p), 0);
            due(x.same(), false);
            due(x.lastKind(p), 0);
        }
    }

    // Promises 14 to 17

    private static void actionsWouldBeDone() {
        TreeSync x = new TreeSync();
        due(x.actions(), 0);
        fillUp(x, 0);
        due(x.actions(), 4);
        due(x.action(3, 0), 3);
        due(x.conflicts(), 0);
        due(x.size(1), 0);
        due(x.changed(0), 84);
        due(x.folder(1, 0), 0);
        due(x.actions(), 7);
        due(x.lastKind(0), 0);
        due(x.step(), 7);
        due(x.actions(), 0);
    }

    private static void actionByWhat() {
        TreeSync x = new TreeSync();
        due(x.write(0, 3, 1), 0);
        due(x.action(0, 0), 3);
        due(x.action(0, 1), 1);
        for (int what : new int[] {MIN, -2, -1, 2, 3, MAX}) {
            due(x.action(0, what), BAD_ARG);
            due(x.action(1, what), BAD_ARG);
            due(x.action(-1, what), BAD_ARG);
            due(new TreeSync().action(0, what), BAD_ARG);
        }
    }

    private static void actionNone() {
        TreeSync x = new TreeSync();
        for (int count = 0; count <= 4; count++) {
            for (int what = 0; what < 2; what++) {
                due(x.action(count, what), NONE);
                due(x.action(-1, what), NONE);
                due(x.action(64, what), NONE);
                due(x.action(84, what), NONE);
                due(x.action(MAX, what), NONE);
                due(x.action(MIN, what), NONE);
            }
            due(count == 0 ? 0 : x.action(count - 1, 0), count == 0 ? 0 : count - 1);
            due(count == 0 ? 0 : x.action(count - 1, 1), 0);
            due(count == 4 ? 0 : x.folder(1, count), 0);
        }
    }

    private static void actionsAreForgottenWhenDone() {
        TreeSync x = new TreeSync();
        due(x.write(0, 0, 1), 0);
        due(x.write(0, 1, 1), 0);
        due(x.action(1, 0), 1);
        due(x.stepSome(1), 1);
        due(x.action(0, 0), 1);
        due(x.action(1, 0), NONE);
        due(x.step(), 1);
        due(x.action(0, 0), NONE);
    }

    private static TreeSync conflictsAt(int count) {
        TreeSync x = new TreeSync();
        for (int p = 0; p < count; p++) {
            due(x.write(0, p, 1), 0);
            due(x.write(1, p, 2), 0);
        }
        return x;
    }

    private static void conflictsAlsoIfASideIsPreferred() {
        for (int count = 0; count <= 4; count++) {
            for (int s = -1; s < 2; s++) {
                TreeSync x = conflictsAt(count);
                due(x.prefer(s), 0);
                due(x.conflicts(), count);
                due(x.actions(), s == -1 ? 0 : count);
                due(x.conflict(0), count == 0 ? NONE : 0);
                due(x.size(0), count);
                due(x.lastKind(0), 0);
            }
        }
    }

    private static void conflictNone() {
        for (int count = 0; count <= 4; count++) {
            TreeSync x = conflictsAt(count);
            for (int i : new int[] {MIN, -2, -1, count, count + 1, 64, 83, 84, MAX}) {
                due(x.conflict(i), NONE);
            }
            for (int i = 0; i < count; i++) {
                due(x.conflict(i), i);
            }
            due(x.prefer(0), 0);
            due(x.step(), count);
            due(x.conflict(0), NONE);
        }
    }

    private static void conflictsAreNotActions() {
        TreeSync x = new TreeSync();
        due(x.write(0, 0, 1), 0);
        due(x.write(1, 1, 1), 0);
        due(x.write(0, 2, 1), 0);
        due(x.write(1, 2, 2), 0);
        due(x.actions(), 2);
        due(x.conflicts(), 1);
        due(x.conflict(0), 2);
        due(x.action(0, 0), 0);
        due(x.action(1, 0), 1);
        due(x.action(2, 0), NONE);
        due(x.prefer(0), 0);
        due(x.action(2, 0), 2);
        due(x.action(2, 1), 1);
    }

    // Promises 18 and 23

    private static void preferOthers() {
        for (int preferred = -1; preferred < 2; preferred++) {
            TreeSync x = conflictsAt(1);
            due(x.prefer(preferred), 0);
            for (int s : new int[] {MIN, BAD_ARG, -3, -2, 2, 3, MAX}) {
                due(x.prefer(s), BAD_ARG);
                due(x.actions(), preferred == -1 ? 0 : 1);
                due(x.action(0, 1), preferred == -1 ? NONE : 1 - preferred);
            }
        }
    }

    private static void preferASide() {
        for (int s = 0; s < 2; s++) {
            TreeSync x = conflictsAt(4);
            due(x.prefer(1 - s), 0);
            due(x.prefer(s), 0);
            due(x.prefer(s), 0);
            due(x.step(), 4);
            due(x.number(0, 3), s == 0 ? 1 : 2);
            due(x.number(1, 3), s == 0 ? 1 : 2);
            due(x.write(0, 0, 8), 1);
            due(x.write(1, 0, 9), 1);
            due(x.step(), 1);
            due(x.number(s, 0), s == 0 ? 8 : 9);
            due(x.same(), true);
        }
    }

    private static void preferNone() {
        for (int s = -1; s < 2; s++) {
            TreeSync x = conflictsAt(1);
            due(x.prefer(s), 0);
            due(x.prefer(-1), 0);
            due(x.actions(), 0);
            due(x.conflicts(), 1);
            due(x.step(), 0);
            due(x.stepSome(1), 0);
            due(x.number(0, 0), 1);
            due(x.number(1, 0), 2);
            due(x.lastKind(0), 0);
        }
    }

    // Promises 19 and 20

    private static void stepAnswersTheActions() {
        TreeSync x = new TreeSync();
        due(x.step(), 0);
        fillUp(x, 1);
        due(x.step(), 4);
        due(x.step(), 0);
        due(x.same(), true);
        TreeSync y = conflictsAt(4);
        due(y.step(), 0);
        due(y.conflicts(), 4);
        due(y.prefer(1), 0);
        due(y.step(), 4);
        due(y.step(), 0);
    }

    /** As many actions as there can be: each at a path in which nothing stands. */
    private static void stepUpTo64Actions() {
        for (int s = 0; s < 2; s++) {
            TreeSync x = new TreeSync();
            for (int p = 0; p < 84; p++) {
                due(x.folder(s, p), 0);
                due(p < 20 ? x.folder(1 - s, p) : 0, 0);
            }
            due(x.actions(), 64);
            due(x.action(63, 0), 83);
            due(x.action(63, 1), 1 - s);
            due(x.action(64, 0), NONE);
            due(x.step(), 64);
            due(x.same(), true);
            due(x.changed(0), 0);
        }
    }

    private static TreeSync actionsAt(int count) {
        TreeSync x = new TreeSync();
        for (int p = 0; p < count; p++) {
            due(x.write(p % 2, p, 1), 0);
        }
        return x;
    }

    private static void stepSomeBelow0() {
        for (int n : new int[] {MIN, BAD_ARG, -2, -1}) {
            TreeSync x = actionsAt(2);
            due(x.write(0, 3, 1), 0);
            due(x.write(1, 3, 1), 0);
            due(x.stepSome(n), BAD_ARG);
            due(x.actions(), 2);
            due(x.changed(0), 2);
            due(x.lastKind(3), 0);
            due(new TreeSync().stepSome(n), BAD_ARG);
        }
    }

    private static void stepSomeUpToN() {
        for (int count = 0; count <= 4; count++) {
            for (int n : new int[] {0, 1, 2, 3, 4, 5, 83, 84, 85, MAX}) {
                TreeSync x = actionsAt(count);
                int done = n < count ? n : count;
                due(x.stepSome(n), done);
                due(x.actions(), count - done);
                for (int p = 0; p < count; p++) {
                    due(x.lastKind(p), p < done ? 1 : 0);
                    due(x.kind(1 - p % 2, p), p < done ? 1 : 0);
                }
                due(x.step(), count - done);
            }
        }
    }

    /** Paths 0 and 2 are alike on both sides, 1 and 3 are actions. */
    private static TreeSync alikeBetweenActions() {
        TreeSync x = new TreeSync();
        due(x.write(0, 0, 1), 0);
        due(x.write(1, 0, 1), 0);
        due(x.write(0, 1, 1), 0);
        due(x.write(0, 2, 1), 0);
        due(x.write(1, 2, 1), 0);
        due(x.write(1, 3, 1), 0);
        return x;
    }

    private static void stepSomeGoesOnToAFurtherAction() {
        for (int n = 0; n <= 3; n++) {
            TreeSync x = alikeBetweenActions();
            due(x.stepSome(n), n < 2 ? n : 2);
            due(x.lastKind(0), 1);
            due(x.lastKind(1), n < 1 ? 0 : 1);
            due(x.lastKind(2), n < 1 ? 0 : 1);
            due(x.lastKind(3), n < 2 ? 0 : 1);
        }
    }

    private static void stepSomeStopsInsideFolders() {
        for (int p = 0; p < 4; p++) {
            TreeSync x = new TreeSync();
            for (int s = 0; s < 2; s++) {
                due(x.folder(s, p), 0);
                due(x.folder(s, inside(p, 1)), 0);
                due(x.write(s, inside(p, 3), 1), 0);
            }
            due(x.write(0, inside(inside(p, 1), 0), 1), 0);
            due(x.write(1, inside(inside(p, 1), 3), 1), 0);
            due(x.stepSome(0), 0);
            due(x.lastKind(p), 2);
            due(x.lastKind(inside(p, 1)), 2);
            due(x.lastKind(inside(p, 3)), 0);
            due(x.stepSome(1), 1);
            due(x.lastKind(inside(inside(p, 1), 0)), 1);
            due(x.lastKind(inside(inside(p, 1), 3)), 0);
            due(x.lastKind(inside(p, 3)), 0);
            due(x.stepSome(1), 1);
            due(x.lastKind(inside(inside(p, 1), 3)), 1);
            due(x.lastKind(inside(p, 3)), 1);
            due(x.same(), true);
        }
    }

    private static void stepSomeAndConflicts() {
        for (int preferred = -1; preferred < 2; preferred++) {
            TreeSync x = conflictsAt(2);
            due(x.write(0, 3, 1), 0);
            due(x.prefer(preferred), 0);
            due(x.stepSome(1), 1);
            due(x.conflicts(), preferred == -1 ? 2 : 1);
            due(x.lastKind(0), preferred == -1 ? 0 : 1);
            due(x.lastKind(1), 0);
            due(x.kind(1, 3), preferred == -1 ? 1 : 0);
            due(x.stepSome(9), preferred == -1 ? 0 : 2);
        }
    }

    // Promises 21 and 22

    private static void keepInNoPlace() {
        for (int k : NO_PLACES) {
            TreeSync x = new TreeSync();
            due(x.keep(0, k), BAD_ARG);
            due(x.keep(1, k), BAD_ARG);
            for (int place = 0; place < 3; place++) {
                due(x.restore(0, place), NONE);
            }
        }
    }

    private static void keepAnswersTheSize() {
        for (int k = 0; k < 3; k++) {
            TreeSync x = new TreeSync();
            due(x.keep(0, k), 0);
            fillUp(x, 1);
            due(x.keep(1, k), 84);
            due(x.keep(0, k), 0);
            due(x.remove(1, 83), 1);
            due(x.keep(1, k), 83);
            due(x.size(1), 83);
            due(x.size(0), 0);
        }
    }

    private static void placesAreApart() {
        TreeSync x = new TreeSync();
        for (int k = 0; k < 3; k++) {
            due(x.write(0, k, k + 5), 0);
            due(x.keep(0, k), k + 1);
        }
        due(x.write(0, 2, 1), 1);
        for (int k = 2; k >= 0; k--) {
            due(x.restore(1, k), k + 1);
            for (int p = 0; p < 3; p++) {
                due(x.number(1, p), p <= k ? p + 5 : NONE);
            }
        }
        due(x.number(0, 2), 1);
        due(x.keep(1, 1), 1);
        due(x.restore(1, 2), 3);
        due(x.restore(1, 0), 1);
        due(x.restore(1, 1), 1);
    }

    private static void restoreFromNoPlace() {
        for (int k : NO_PLACES) {
            TreeSync x = new TreeSync();
            due(x.restore(0, k), BAD_ARG);
            for (int place = 0; place < 3; place++) {
                due(x.keep(0, place), 0);
            }
            due(x.write(0, 0, 1), 0);
            due(x.restore(0, k), BAD_ARG);
            due(x.restore(1, k), BAD_ARG);
            due(x.size(0), 1);
        }
    }

    private static void restoreWhereNothingWasKept() {
        for (int k = 0; k < 3; k++) {
            TreeSync x = new TreeSync();
            due(x.write(0, 0, 1), 0);
            due(x.write(1, 1, 1), 0);
            for (int place = 0; place < 3; place++) {
                due(place == k ? 1 : x.keep(0, place), 1);
            }
            due(x.restore(0, k), NONE);
            due(x.restore(1, k), NONE);
            due(x.number(0, 0), 1);
            due(x.number(1, 1), 1);
            due(x.keep(1, k), 1);
            due(x.restore(0, k), 1);
            due(x.kind(0, 0), 0);
            due(x.number(0, 1), 1);
        }
    }

    private static void restoreAnEmptyTree() {
        for (int k = 0; k < 3; k++) {
            TreeSync x = new TreeSync();
            due(x.keep(0, k), 0);
            fillUp(x, 0);
            due(x.restore(0, k), 0);
            due(x.size(0), 0);
            for (int p = 0; p < 84; p++) {
                due(x.kind(0, p), 0);
            }
        }
    }

    private static void restoreAFullTree() {
        TreeSync x = new TreeSync();
        fillUp(x, 0);
        due(x.keep(0, 2), 84);
        for (int p = 0; p < 4; p++) {
            due(x.remove(0, p), 21);
            due(x.write(0, p, 1), 0);
            due(x.write(1, p, 1), 0);
        }
        due(x.step(), 0);
        for (int s = 0; s < 2; s++) {
            due(x.restore(s, 2), 84);
            due(x.size(s), 84);
            for (int p = 0; p < 84; p++) {
                due(x.kind(s, p), 2);
            }
        }
        due(x.lastKind(0), 1);
        due(x.lastKind(4), 0);
        due(x.changed(0), 84);
    }

    private static void restoreKeepsLastTreeAndPreference() {
        TreeSync x = conflictsAt(1);
        due(x.keep(0, 0), 1);
        due(x.keep(1, 1), 1);
        due(x.prefer(1), 0);
        due(x.step(), 1);
        due(x.write(1, 0, 5), 1);
        due(x.restore(0, 0), 1);
        due(x.lastKind(0), 1);
        due(x.conflicts(), 1);
        due(x.action(0, 1), 0);
        due(x.restore(1, 1), 1);
        due(x.changed(1), 0);
        due(x.conflicts(), 0);
        due(x.action(0, 1), 1);
    }

    private static void makingAndRemoving() {
        holds("Promise 1: All trees are nothing everywhere", BoundaryTest::newTreesAreNothing);
        holds("Promise 1: A new object", BoundaryTest::newObjectsShareNothing);
        holds("Promise 1: no side is preferred", BoundaryTest::noSideIsPreferredAtFirst);
        holds("Promise 1: nothing is kept", BoundaryTest::nothingIsKeptAtFirst);
        holds("Promise 2: NO_PARENT, where nothing is", () -> noParentWhereNothingIs(true));
        holds("Promise 2: NO_PARENT, where a file is", () -> noParentWhereAFileIs(true));
        holds("Promise 2: EXISTS if it is a folder", () -> existsWhereAFolderIs(true));
        holds("Promise 2: 1 if it was a file before, else 0", BoundaryTest::writeTellsWhetherItWasAFile);
        holds("Promise 3: NO_PARENT, where nothing is", () -> noParentWhereNothingIs(false));
        holds("Promise 3: NO_PARENT, where a file is", () -> noParentWhereAFileIs(false));
        holds("Promise 3: EXISTS if it is not nothing, a folder", () -> existsWhereAFolderIs(false));
        holds("Promise 3: EXISTS if it is not nothing, a file", BoundaryTest::existsWhereAFileIs);
        holds("Promise 3: a folder in which nothing stands", BoundaryTest::nothingStandsInANewFolder);
        holds("Promise 4: NONE if it is", BoundaryTest::removeNone);
        holds("Promise 4: how many paths", BoundaryTest::removeCountsWhatWasThere);
        holds("Promise 4: that were not nothing are nothing now", BoundaryTest::removeDoesNotCountNothing);
        holds("Promise 4: on side s", BoundaryTest::removeLeavesTheRest);
    }

    private static void moveOrCopy(String promise, boolean moving) {
        holds(promise + ": q no path answers BAD_ARG", () -> placeToNoPath(moving));
        holds(promise + ": NONE if p is nothing", () -> placeNone(moving));
        holds(promise + ": NO_PARENT for q", () -> placeNoParent(moving));
        holds(promise + ": NO_PARENT before BAD_ARG", () -> placeNoParentBeforeBadArg(moving));
        holds(promise + ": EXISTS if q is not nothing", () -> placeExists(moving));
        holds(promise + ": EXISTS before BAD_ARG", () -> placeExistsBeforeBadArg(moving));
        holds(promise + ": BAD_ARG if q stands in p", () -> placeIntoItself(moving));
        holds(promise + ": or in a path that does", () -> placeDeepIntoItself(moving));
        holds(promise + ": or a folder with something in it would come to a path from 20 on",
            () -> placeFullFolderFrom20On(moving));
        holds(promise + ": a folder with something in it comes to a path below 20",
            () -> placeFullFolderBelow20(moving));
        holds(promise + ": or one in which a folder with something in it stands to a path from 4 on",
            () -> placeTwiceFullFolderFrom4On(moving));
        holds(promise + ": one in which such a folder stands comes to a path below 4",
            () -> placeTwiceFullFolderBelow4(moving));
        holds(promise + ": Otherwise 0", () -> placeSmallThings(moving));
        holds(promise + ": on side s", () -> placeTouchesOneSide(moving));
    }

    private static void asking() {
        holds("Promise 7: 0 if nothing, 1 if a file, 2 if a folder", BoundaryTest::kindTellsThree);
        holds("Promise 8: NONE if it is no file", BoundaryTest::numberOfNoFile);
        holds("Promise 9: The same as kind, for the last tree", BoundaryTest::lastKindTellsThree);
        holds("Promise 10: The number of paths that are not nothing", BoundaryTest::sizesFrom0To84);
        holds("Promise 11: The number of paths", BoundaryTest::changedFrom0To84);
        holds("Promise 11: not both nothing, both folders, or files with the same number",
            BoundaryTest::changedByWhatItIs);
        holds("Promise 11: paths at which side s and the last tree differ",
            BoundaryTest::changedCountsPathsNotContents);
        holds("Promise 12: 0 if that is nothing", BoundaryTest::twinsOfNothing);
        for (int side = 0; side < 2; side++) {
            int s = side;
            holds("Promise 12: other paths on side " + s, () -> twinsAreOtherPaths(s));
            holds("Promise 12: The number of other paths on side " + s, () -> twinsUpTo63(s));
            holds("Promise 12: with the same content on side " + s, () -> twinsByNumber(s));
        }
        holds("Promise 13: at all paths", BoundaryTest::sameAtAllPaths);
        holds("Promise 14: The number of actions that stepping would do", BoundaryTest::actionsWouldBeDone);
        holds("Promise 15: what not 0 or 1 answers BAD_ARG, before NONE", BoundaryTest::actionByWhat);
        holds("Promise 15: NONE if there is none", BoundaryTest::actionNone);
        holds("Promise 15: Of action i of these", BoundaryTest::actionsAreForgottenWhenDone);
        holds("Promise 16: also if a side is preferred", BoundaryTest::conflictsAlsoIfASideIsPreferred);
        holds("Promise 17: NONE if there is none", BoundaryTest::conflictNone);
        holds("Promise 17: The path of conflict i of these", BoundaryTest::conflictsAreNotActions);
    }

    private static void steppingAndKeeping() {
        holds("Promise 18: Side s is preferred (s 0 or 1)", BoundaryTest::preferASide);
        holds("Promise 18: BAD_ARG for others", BoundaryTest::preferOthers);
        holds("Promise 19: Answers the number of actions", BoundaryTest::stepAnswersTheActions);
        holds("Promise 19: the number of actions, all 64", BoundaryTest::stepUpTo64Actions);
        holds("Promise 20: BAD_ARG if n is below 0", BoundaryTest::stepSomeBelow0);
        holds("Promise 20: stops when n actions are done", BoundaryTest::stepSomeUpToN);
        holds("Promise 20: and a further one would be", BoundaryTest::stepSomeGoesOnToAFurtherAction);
        holds("Promise 20: what was done, in the last tree too, stays", BoundaryTest::stepSomeStopsInsideFolders);
        holds("Promise 20: the number of actions done", BoundaryTest::stepSomeAndConflicts);
        holds("Promise 21: BAD_ARG if k is none", BoundaryTest::keepInNoPlace);
        holds("Promise 21: Otherwise its size", BoundaryTest::keepAnswersTheSize);
        holds("Promise 21: kept in place k (0 to 2)", BoundaryTest::placesAreApart);
        holds("Promise 22: BAD_ARG if k is not 0 to 2", BoundaryTest::restoreFromNoPlace);
        holds("Promise 22: NONE if nothing was kept there", BoundaryTest::restoreWhereNothingWasKept);
        holds("Promise 22: its size, of an empty tree", BoundaryTest::restoreAnEmptyTree);
        holds("Promise 22: its size, of a full tree", BoundaryTest::restoreAFullTree);
        holds("Promise 22: Side s gets the tree", BoundaryTest::restoreKeepsLastTreeAndPreference);
        holds("Promise 23: none is preferred from then on, and the answer is 0", BoundaryTest::preferNone);
    }

    public static void main(String[] args) {
        makingAndRemoving();
        moveOrCopy("Promise 5", true);
        moveOrCopy("Promise 6", false);
        holds("Promise 6: path p, which stays", BoundaryTest::copiesGoTheirOwnWays);
        asking();
        steppingAndKeeping();
        System.out.println(wrong == 0 ? "all answers are as due" : wrong + " answers are not as due");
        if (wrong != 0) {
            System.exit(1);
        }
    }
}
