import java.util.ArrayList;
import java.util.List;

/** Each sentence before the document's promises that names a boundary case, with a test of its own. */
public final class TermsTest {
    private static final int BAD_ARG = -1000000001;
    private static final int NO_PARENT = -1000000002;
    private static final int EXISTS = -1000000003;
    private static final int NONE = -1000000004;
    private static final int MIN = Integer.MIN_VALUE;
    private static final int MAX = Integer.MAX_VALUE;

    // Contents that a path can have. Those up to EMPTY fit at every path, those up to LAST_NAME at paths below 20.
    private static final int NOTHING = 0;
    private static final int FILE_1 = 1;
    private static final int FILE_2 = 2;
    private static final int EMPTY = 3;
    private static final int FIRST_NAME = 4;
    private static final int LAST_NAME = 5;
    private static final int DEEP = 6;
    private static final int LAST_TREE = 2;

    private interface Test {
        void run();
    }

    private interface Case {
        void check(int p, int a, int b, int last);
    }

    private interface Call {
        long on(TreeSync x, int a, int b, int c);
    }

    private interface Range {
        boolean has(int a, int b, int c);
    }

    private record Method(String name, int arguments, Range range, Call call) {
    }

    private record Refused(String call, int code, Call on) {
    }

    private static String sentence = "";
    private static String where = "";
    private static int wrong = 0;

    private static void due(long got, long want) {
        if (got != want) {
            tell("answered " + got + ", due is " + want);
        }
    }

    private static void due(boolean got, boolean want) {
        if (got != want) {
            tell("answered " + got + ", due is " + want);
        }
    }

    private static void tell(String what) {
        wrong++;
        if (wrong > 40) {
            return;
        }
        int line = 0;
        for (StackTraceElement element : new Throwable().getStackTrace()) {
            boolean helper = element.getMethodName().matches("tell|due|dueContent");
            if (line == 0 && !helper) {
                line = element.getLineNumber();
            }
        }
        System.out.println("\"" + sentence + "\" line " + line + where + ": " + what);
    }

    private static void holds(String words, Test test) {
        sentence = words;
        where = "";
        try {
            test.run();
        } catch (RuntimeException | Error thrown) {
            tell("threw " + thrown);
        }
    }

    private static int inside(int p, int n) {
        return p < 4 ? 4 + 4 * p + n : 20 + 4 * (p - 4) + n;
    }

    private static int above(int p) {
        return p < 20 ? (p - 4) / 4 : 4 + (p - 20) / 4;
    }

    private static void makeAbove(TreeSync x, int s, int p) {
        if (p >= 20) {
            x.folder(s, above(above(p)));
        }
        if (p >= 4) {
            x.folder(s, above(p));
        }
    }

    private static TreeSync withAbove(int p) {
        TreeSync x = new TreeSync();
        makeAbove(x, 0, p);
        makeAbove(x, 1, p);
        return x;
    }

    private static boolean fits(int p, int content) {
        return p < 4 || content <= EMPTY || p < 20 && content <= LAST_NAME;
    }

    private static void put(TreeSync x, int s, int p, int content) {
        if (content == FILE_1 || content == FILE_2) {
            x.write(s, p, content);
        }
        if (content >= EMPTY) {
            x.folder(s, p);
        }
        if (content == FIRST_NAME || content == LAST_NAME) {
            x.write(s, inside(p, content == FIRST_NAME ? 0 : 3), 1);
        }
        if (content == DEEP) {
            x.folder(s, inside(p, 3));
            x.write(s, inside(inside(p, 3), 3), 1);
        }
    }

    private static List<Integer> pathsFrom(int p) {
        List<Integer> found = new ArrayList<>(List.of(p));
        for (int n = 0; n < 4 && p < 20; n++) {
            found.addAll(pathsFrom(inside(p, n)));
        }
        return found;
    }

    private static int kind(TreeSync x, int tree, int p) {
        return tree == LAST_TREE ? x.lastKind(p) : x.kind(tree, p);
    }

    /** What path p is in that tree, compared with a new object where the content was put. */
    private static void dueContent(TreeSync x, int tree, int p, int content) {
        TreeSync y = withAbove(p);
        put(y, 0, p, content);
        for (int q : pathsFrom(p)) {
            due(kind(x, tree, q), y.kind(0, q));
            if (tree != LAST_TREE) {
                due(x.number(tree, q), y.number(0, q));
            }
        }
    }

    /** Both sides agreed on one content at p, then it became a on side 0 and b on side 1. */
    private static TreeSync apart(int p, int a, int b, int last) {
        TreeSync x = withAbove(p);
        put(x, 0, p, last);
        put(x, 1, p, last);
        due(x.step(), 0);
        int[] contents = {a, b};
        for (int s = 0; s < 2; s++) {
            if (contents[s] != last) {
                x.remove(s, p);
                put(x, s, p, contents[s]);
            }
        }
        return x;
    }

    /** The first and the last path of each level, with all contents that fit there. */
    private static void allCases(Case test) {
        for (int p : new int[] {0, 3, 4, 19, 20, 83}) {
            for (int a = NOTHING; a <= DEEP; a++) {
                for (int b = NOTHING; b <= DEEP; b++) {
                    for (int last = NOTHING; last <= DEEP; last++) {
                        if (fits(p, a) && fits(p, b) && fits(p, last)) {
                            where = " (path " + p + ", side 0 " + a + ", side 1 " + b + ", last " + last + ")";
                            test.check(p, a, b, last);
                        }
                    }
                }
            }
        }
    }

    private static boolean goesInside(int a, int b) {
        return a != b && a >= EMPTY && b >= EMPTY;
    }

    private static void constants() {
        due(TreeSync.BAD_ARG, BAD_ARG);
        due(TreeSync.NO_PARENT, NO_PARENT);
        due(TreeSync.EXISTS, EXISTS);
        due(TreeSync.NONE, NONE);
    }

    private static void allOf512Calls() {
        TreeSync x = new TreeSync();
        for (int i = 0; i < 128; i++) {
            due(x.write(0, 3, i), i == 0 ? 0 : 1);
            due(x.step(), 1);
            due(x.keep(1, i % 3), 1);
            due(x.number(1, 3), i);
        }
        TreeSync y = new TreeSync();
        for (int i = 0; i < 128; i++) {
            due(y.folder(0, 0), 0);
            due(y.folder(0, 7), 0);
            due(y.folder(0, 35), 0);
            due(y.remove(0, 0), 3);
        }
    }

    private static void pathsAre0To83() {
        for (int s = 0; s < 2; s++) {
            TreeSync x = new TreeSync();
            for (int p = 0; p < 84; p++) {
                due(x.folder(s, p), 0);
                due(x.kind(s, p), 2);
                due(x.size(s), p + 1);
            }
            due(x.folder(s, -1), BAD_ARG);
            due(x.folder(s, 84), BAD_ARG);
            due(x.size(s), 84);
            due(x.size(1 - s), 0);
        }
    }

    private static void fourStandInTheRoot() {
        for (int p = 0; p < 84; p++) {
            where = " (path " + p + ")";
            TreeSync x = new TreeSync();
            due(x.write(0, p, 1), p < 4 ? 0 : NO_PARENT);
            due(x.folder(1, p), p < 4 ? 0 : NO_PARENT);
        }
    }

    private static void sixteenStandInThose() {
        for (int p = 0; p < 4; p++) {
            for (int q = 4; q < 20; q++) {
                where = " (path " + q + " with folder " + p + ")";
                TreeSync x = new TreeSync();
                due(x.folder(0, p), 0);
                due(x.write(0, q, 1), q >= 4 + 4 * p && q <= 4 + 4 * p + 3 ? 0 : NO_PARENT);
                due(x.write(1, q, 1), NO_PARENT);
            }
        }
    }

    private static void sixtyFourStandInThose() {
        for (int parent = 4; parent < 20; parent++) {
            for (int p = 20; p < 84; p++) {
                where = " (path " + p + " with folder " + parent + ")";
                TreeSync x = new TreeSync();
                due(x.folder(1, (parent - 4) / 4), 0);
                due(x.write(1, p, 1), NO_PARENT);
                due(x.folder(1, parent), 0);
                int first = 20 + 4 * (parent - 4);
                due(x.write(1, p, 1), p >= first && p <= first + 3 ? 0 : NO_PARENT);
            }
        }
    }

    private static void nothingStandsInThePathsFrom20On() {
        for (int p = 20; p < 84; p++) {
            where = " (path " + p + ")";
            TreeSync x = withAbove(p);
            due(x.folder(0, p), 0);
            for (int q = 0; q < 84; q++) {
                boolean stands = q == above(above(p)) || q == above(p) || q == p;
                due(x.kind(0, q), stands ? 2 : 0);
                if (q >= 20 && above(q) != above(p)) {
                    due(x.folder(0, q), NO_PARENT);
                }
            }
            due(x.folder(0, 4 * p + 4), BAD_ARG);
            due(x.remove(0, p), 1);
            due(x.size(0), 2);
        }
    }

    private static void numbersAreInts() {
        int[] numbers = {0, 1, -1, 127, 128, 255, 256, 257, 32767, 32768, 65535, 65536, 65537, MIN, MIN + 1, MAX,
            MAX - 1, BAD_ARG, NO_PARENT, EXISTS, NONE};
        for (int number : numbers) {
            for (int other : numbers) {
                where = " (numbers " + number + " and " + other + ")";
                TreeSync x = new TreeSync();
                due(x.write(0, 0, number), 0);
                due(x.write(1, 0, other), 0);
                due(x.write(0, 1, other), 0);
                due(x.number(0, 0), number);
                due(x.number(1, 0), other);
                due(x.twins(0, 0), number == other ? 1 : 0);
                due(x.conflicts(), number == other ? 0 : 1);
                due(x.prefer(1), 0);
                due(x.step(), number == other ? 1 : 2);
                due(x.number(0, 0), other);
                due(x.number(1, 1), other);
                due(x.write(0, 0, number), 1);
                due(x.same(), number == other);
                due(x.changed(0), number == other ? 0 : 1);
                due(x.keep(0, 0), 2);
                due(x.restore(1, 0), 2);
                due(x.number(1, 0), number);
            }
        }
    }

    private static void nothingStandsInWhatIsNoFolder() {
        for (int p : new int[] {0, 3}) {
            TreeSync x = new TreeSync();
            put(x, 0, p, DEEP);
            due(x.step(), 1);
            due(x.remove(1, p), 3);
            for (int q : pathsFrom(p)) {
                due(x.kind(1, q), 0);
            }
            due(x.write(1, p, 1), 0);
            due(x.step(), 1);
            dueContent(x, 0, p, FILE_1);
            dueContent(x, LAST_TREE, p, FILE_1);
            due(x.write(0, inside(p, 3), 1), NO_PARENT);
            due(x.remove(0, p), 1);
            due(x.folder(0, p), 0);
            dueContent(x, 0, p, EMPTY);
        }
    }

    /** One path below a folder is made different, each in turn: as a file, as another file, as a folder. */
    private static void contentIsAllThatStandsInIt() {
        for (int q : pathsFrom(2)) {
            for (int change = 0; change < 3 && q != 2; change++) {
                where = " (path " + q + ", change " + change + ")";
                TreeSync x = new TreeSync();
                due(x.folder(0, 2), 0);
                for (int n = 0; n < 4 && q >= 20; n++) {
                    due(x.folder(0, inside(2, n)), 0);
                }
                due(x.copy(0, 2, 3), 0);
                due(x.twins(0, 2), 1);
                due(change == 0 ? x.folder(0, q) : x.write(0, q, 0), 0);
                due(x.twins(0, 2), 0);
                // Only the empty folder in path 2 can be like path 3, if that is empty, too.
                due(x.twins(0, 3), q < 20 && change == 0 ? 1 : 0);
                int twin = q < 20 ? q + 4 : q + 16;
                due(change == 0 ? x.folder(0, twin) : x.write(0, twin, change - 1), 0);
                due(x.twins(0, 2), change == 2 ? 0 : 1);
            }
        }
    }

    private static void foldersFrom20OnAreEmptyOnes() {
        for (int p = 20; p < 84; p++) {
            where = " (path " + p + ")";
            int root = p < 52 ? 3 : 0;
            // Another name than that of p, or the folders that they stand in were twins as well.
            int inner = inside(root, (p + 1) % 4);
            TreeSync x = new TreeSync();
            makeAbove(x, 0, p);
            // What stands on the other side does not belong to it either.
            for (int q = 0; q < 4; q++) {
                due(x.write(1, q, 7), 0);
            }
            due(x.folder(0, p), 0);
            due(x.twins(0, p), 0);
            due(x.folder(0, root), 0);
            due(x.twins(0, p), 1);
            due(x.twins(0, root), 1);
            due(x.folder(0, inner), 0);
            due(x.twins(0, p), 1);
            due(x.twins(0, root), 0);
            due(x.twins(0, inner), 1);
            due(x.write(0, inside(inner, 0), 0), 0);
            due(x.twins(0, p), 0);
            due(x.twins(0, inner), 0);
        }
    }

    private static void atFirstAllIsNothing() {
        TreeSync x = new TreeSync();
        for (int p = 0; p < 84; p++) {
            due(x.kind(0, p), 0);
            due(x.kind(1, p), 0);
            due(x.lastKind(p), 0);
        }
        due(x.changed(0), 0);
        due(x.changed(1), 0);
        due(x.same(), true);
    }

    private static void steppingGoesOver0To3InThisOrder() {
        TreeSync x = new TreeSync();
        for (int p = 3; p >= 0; p--) {
            due(x.write(p % 2, p, p), 0);
        }
        for (int p = 0; p < 4; p++) {
            due(x.actions(), 4 - p);
            due(x.action(0, 0), p);
            due(x.action(3 - p, 0), 3);
            due(x.stepSome(1), 1);
            due(x.number(1 - p % 2, p), p);
            due(x.lastKind(p), 1);
            due(p == 3 ? 0 : x.lastKind(p + 1), 0);
        }
        due(x.same(), true);
    }

    private static void equalContentsGoToTheLastTree() {
        allCases((p, a, b, last) -> {
            if (a != b) {
                return;
            }
            TreeSync x = apart(p, a, b, last);
            due(x.prefer(p % 2), 0);
            due(x.actions(), 0);
            due(x.conflicts(), 0);
            dueContent(x, LAST_TREE, p, last);
            due(x.step(), 0);
            dueContent(x, 0, p, a);
            dueContent(x, 1, p, a);
            dueContent(x, LAST_TREE, p, a);
            due(x.changed(0), 0);
            due(x.changed(1), 0);
        });
    }

    /** Folders on both sides with a conflict at every path in them, so that nothing in the last tree may change. */
    private static TreeSync foldersInConflict(int p, boolean agreed) {
        TreeSync x = withAbove(p);
        for (int s = 0; s < 2; s++) {
            due(x.folder(s, p), 0);
            for (int n = 0; n < 4 && agreed; n++) {
                due(x.write(s, inside(p, n), 5), 0);
            }
        }
        due(x.step(), 0);
        for (int n = 0; n < 4; n++) {
            due(x.write(0, inside(p, n), 1), agreed ? 1 : 0);
            due(x.write(1, inside(p, n), 2), agreed ? 1 : 0);
        }
        return x;
    }

    private static void aFolderInTheLastTreeKeepsWhatStandsInIt() {
        for (int p = 0; p < 20; p++) {
            where = " (path " + p + ")";
            TreeSync x = foldersInConflict(p, true);
            due(x.conflicts(), 4);
            due(x.step(), 0);
            due(x.lastKind(p), 2);
            due(x.changed(0), 4);
            for (int n = 0; n < 4; n++) {
                due(x.lastKind(inside(p, n)), 1);
                due(x.write(0, inside(p, n), 5), 1);
            }
            due(x.changed(0), 0);
            due(x.step(), 4);
            due(x.number(0, inside(p, 3)), 2);
        }
    }

    private static void anEmptyFolderInTheLastTreeStaysOne() {
        for (int p = 0; p < 20; p++) {
            where = " (path " + p + ")";
            TreeSync x = foldersInConflict(p, false);
            due(x.step(), 0);
            due(x.lastKind(p), 2);
            for (int n = 0; n < 4; n++) {
                due(x.lastKind(inside(p, n)), 0);
            }
        }
    }

    private static void elseNothingStandsInIt() {
        for (int p = 0; p < 20; p++) {
            for (int last = NOTHING; last <= FILE_2; last++) {
                where = " (path " + p + ", last " + last + ")";
                TreeSync x = apart(p, FIRST_NAME, LAST_NAME, last);
                due(x.write(0, inside(p, 1), 1), 0);
                due(x.write(1, inside(p, 1), 2), 0);
                due(x.lastKind(p), last == NOTHING ? 0 : 1);
                due(x.step(), 2);
                due(x.lastKind(p), 2);
                due(x.lastKind(inside(p, 0)), 1);
                due(x.lastKind(inside(p, 1)), 0);
                due(x.lastKind(inside(p, 2)), 0);
                due(x.lastKind(inside(p, 3)), 1);
                due(x.changed(0), 1);
                due(x.changed(1), 1);
            }
        }
    }

    private static void theSameIsDoneWithTheFourPathsInIt() {
        for (int p = 0; p < 20; p++) {
            where = " (path " + p + ")";
            TreeSync x = withAbove(p);
            due(x.folder(0, p), 0);
            due(x.folder(1, p), 0);
            for (int n = 3; n >= 0; n--) {
                due(x.write(n % 2, inside(p, n), n), 0);
            }
            due(x.actions(), 4);
            for (int n = 0; n < 4; n++) {
                due(x.action(n, 0), inside(p, n));
                due(x.action(n, 1), 1 - n % 2);
            }
            due(x.step(), 4);
            for (int n = 0; n < 4; n++) {
                due(x.number(1 - n % 2, inside(p, n)), n);
                due(x.lastKind(inside(p, n)), 1);
            }
        }
    }

    /** After all that stands in a folder stepping goes on behind that folder. */
    private static void allTwentyFoldersAreGoneThrough() {
        TreeSync x = new TreeSync();
        for (int p = 0; p < 20; p++) {
            due(x.folder(0, p), 0);
            due(x.folder(1, p), 0);
        }
        for (int p = 20; p < 84; p++) {
            due(x.write(0, p, 1), 0);
            due(x.write(1, p, 2), 0);
        }
        due(x.conflicts(), 64);
        for (int i = 0; i < 64; i++) {
            due(x.conflict(i), 20 + i);
        }
        due(x.conflict(64), NONE);
        due(x.prefer(0), 0);
        due(x.conflicts(), 64);
        due(x.actions(), 64);
        due(x.stepSome(63), 63);
        due(x.actions(), 1);
        due(x.action(0, 0), 83);
        due(x.step(), 1);
        due(x.same(), true);
        due(x.changed(1), 0);
    }

    private static void foldersFrom20OnLeaveNothingToDo() {
        for (int p = 20; p < 84; p++) {
            for (int last = NOTHING; last <= EMPTY; last++) {
                where = " (path " + p + ", last " + last + ")";
                TreeSync x = apart(p, EMPTY, EMPTY, last);
                int next = p % 4 == 3 ? p - 3 : p + 1;
                due(x.write(0, next, 1), 0);
                due(x.actions(), 1);
                due(x.action(0, 0), next);
                due(x.conflicts(), 0);
                due(x.step(), 1);
                due(x.lastKind(p), 2);
                due(x.kind(0, p), 2);
                due(x.kind(1, p), 2);
            }
        }
    }

    private static void sideIsAsInTheLastTree(int side) {
        allCases((p, a, b, last) -> {
            int unchanged = side == 0 ? a : b;
            int other = side == 0 ? b : a;
            if (a == b || goesInside(a, b) || unchanged != last) {
                return;
            }
            for (int preferred = -1; preferred < 2; preferred++) {
                TreeSync x = apart(p, a, b, last);
                due(x.prefer(preferred), 0);
                due(x.conflicts(), 0);
                due(x.actions(), 1);
                due(x.action(0, 0), p);
                due(x.action(0, 1), side);
                due(x.action(1, 0), NONE);
                due(x.step(), 1);
                for (int tree = 0; tree <= LAST_TREE; tree++) {
                    dueContent(x, tree, p, other);
                }
                due(x.changed(0), 0);
                due(x.changed(1), 0);
            }
        });
    }

    private static boolean isConflict(int a, int b, int last) {
        return a != b && !goesInside(a, b) && a != last && b != last;
    }

    private static void elseItIsAConflict() {
        allCases((p, a, b, last) -> {
            if (isConflict(a, b, last)) {
                TreeSync x = apart(p, a, b, last);
                due(x.conflicts(), 1);
                due(x.conflict(0), p);
                due(x.conflict(1), NONE);
                due(x.actions(), 0);
            }
        });
    }

    private static void noneIsPreferred() {
        allCases((p, a, b, last) -> {
            if (isConflict(a, b, last)) {
                TreeSync x = apart(p, a, b, last);
                int[] changed = {x.changed(0), x.changed(1)};
                due(x.step(), 0);
                dueContent(x, 0, p, a);
                dueContent(x, 1, p, b);
                dueContent(x, LAST_TREE, p, last);
                due(x.changed(0), changed[0]);
                due(x.changed(1), changed[1]);
                due(x.conflicts(), 1);
            }
        });
    }

    private static void sideIsPreferred(int side) {
        allCases((p, a, b, last) -> {
            if (isConflict(a, b, last)) {
                TreeSync x = apart(p, a, b, last);
                due(x.prefer(side), 0);
                due(x.conflicts(), 1);
                due(x.actions(), 1);
                due(x.action(0, 0), p);
                due(x.action(0, 1), 1 - side);
                due(x.step(), 1);
                for (int tree = 0; tree <= LAST_TREE; tree++) {
                    dueContent(x, tree, p, side == 0 ? a : b);
                }
                due(x.changed(0), 0);
                due(x.changed(1), 0);
                due(x.conflicts(), 0);
            }
        });
    }

    private static void anActionForAWholeContent() {
        TreeSync x = new TreeSync();
        for (int p = 0; p < 84; p++) {
            due(x.folder(1, p), 0);
        }
        due(x.actions(), 4);
        due(x.step(), 4);
        due(x.size(0), 84);
        due(x.changed(0), 0);
        due(x.remove(0, 3), 21);
        due(x.actions(), 1);
        due(x.step(), 1);
        due(x.size(1), 63);
        due(x.lastKind(83), 0);
        due(x.remove(0, 0), 21);
        due(x.remove(1, 0), 21);
        due(x.actions(), 0);
        due(x.step(), 0);
        due(x.lastKind(0), 0);
        due(x.lastKind(20), 0);
    }

    private static boolean side(int s) {
        return s == 0 || s == 1;
    }

    private static boolean path(int p) {
        return p >= 0 && p <= 83;
    }

    private static boolean place(int k) {
        return k >= 0 && k <= 2;
    }

    private static List<Method> callsWithAPath() {
        return List.of(
            new Method("write", 3, (a, b, c) -> side(a) && path(b), (x, a, b, c) -> x.write(a, b, c)),
            new Method("folder", 2, (a, b, c) -> side(a) && path(b), (x, a, b, c) -> x.folder(a, b)),
            new Method("remove", 2, (a, b, c) -> side(a) && path(b), (x, a, b, c) -> x.remove(a, b)),
            new Method("kind", 2, (a, b, c) -> side(a) && path(b), (x, a, b, c) -> x.kind(a, b)),
            new Method("number", 2, (a, b, c) -> side(a) && path(b), (x, a, b, c) -> x.number(a, b)),
            new Method("twins", 2, (a, b, c) -> side(a) && path(b), (x, a, b, c) -> x.twins(a, b)),
            new Method("lastKind", 1, (a, b, c) -> path(a), (x, a, b, c) -> x.lastKind(a)),
            new Method("move", 3, (a, b, c) -> side(a) && path(b) && path(c), (x, a, b, c) -> x.move(a, b, c)),
            new Method("copy", 3, (a, b, c) -> side(a) && path(b) && path(c), (x, a, b, c) -> x.copy(a, b, c)));
    }

    private static List<Method> callsWithASideAlone() {
        return List.of(
            new Method("size", 1, (a, b, c) -> side(a), (x, a, b, c) -> x.size(a)),
            new Method("changed", 1, (a, b, c) -> side(a), (x, a, b, c) -> x.changed(a)),
            new Method("keep", 2, (a, b, c) -> side(a) && place(b), (x, a, b, c) -> x.keep(a, b)),
            new Method("restore", 2, (a, b, c) -> side(a) && place(b), (x, a, b, c) -> x.restore(a, b)));
    }

    private static List<Method> otherCalls() {
        return List.of(
            new Method("same", 0, (a, b, c) -> true, (x, a, b, c) -> x.same() ? 1 : 0),
            new Method("actions", 0, (a, b, c) -> true, (x, a, b, c) -> x.actions()),
            new Method("action", 2, (a, b, c) -> side(b), (x, a, b, c) -> x.action(a, b)),
            new Method("conflicts", 0, (a, b, c) -> true, (x, a, b, c) -> x.conflicts()),
            new Method("conflict", 1, (a, b, c) -> true, (x, a, b, c) -> x.conflict(a)),
            new Method("prefer", 1, (a, b, c) -> side(a) || a == -1, (x, a, b, c) -> x.prefer(a)),
            new Method("step", 0, (a, b, c) -> true, (x, a, b, c) -> x.step()),
            new Method("stepSome", 1, (a, b, c) -> a >= 0, (x, a, b, c) -> x.stepSome(a)));
    }

    private static final int[] FAR_AND_NEAR = {MIN, MIN + 1, MIN / 2 - 1, MIN / 2, NONE, EXISTS, NO_PARENT, BAD_ARG,
        -336, -168, -85, -84, -83, -21, -20, -5, -4, -3, -2, -1, 0, 1, 2, 3, 4, 7, 19, 20, 21, 35, 82, 83, 84, 85, 86,
        88, 167, 168, 251, 252, 255, 256, 335, 336, 503, 504, MAX / 4, MAX / 4 + 1, MAX / 2, MAX / 2 + 1, MAX - 1, MAX};
    private static final int[] ONE = {0};

    private static TreeSync inState(int state) {
        TreeSync x = new TreeSync();
        if (state == 1) {
            busy(x);
        }
        for (int p = 0; p < 84 && state == 2; p++) {
            x.folder(0, p);
            x.write(1, p, p);
        }
        return x;
    }

    /** Every call with all of the arguments, near and far; a new object before the document's 512 calls are over. */
    private static void sweep(Method method, int state) {
        TreeSync x = inState(state);
        int calls = 0;
        for (int a : method.arguments > 0 ? FAR_AND_NEAR : ONE) {
            for (int b : method.arguments > 1 ? FAR_AND_NEAR : ONE) {
                for (int c : method.arguments > 2 ? FAR_AND_NEAR : ONE) {
                    where = " (" + method.name + " with " + a + ", " + b + ", " + c + " in state " + state + ")";
                    long answer = method.call.on(x, a, b, c);
                    if (!method.range.has(a, b, c)) {
                        due(answer, BAD_ARG);
                    } else if (!method.name.equals("move") && !method.name.equals("copy")) {
                        due(answer == BAD_ARG, false);
                    }
                    calls++;
                    if (calls % 300 == 0) {
                        x = inState(state);
                    }
                }
            }
        }
    }

    private static void sweepAll(List<Method> methods) {
        for (int state = 0; state < 3; state++) {
            for (Method method : methods) {
                sweep(method, state);
            }
        }
    }

    private static void noCallThrows() {
        sweepAll(callsWithAPath());
        sweepAll(callsWithASideAlone());
        sweepAll(otherCalls());
    }

    /** Two conflicts, two actions, places 0 and 1 kept and changed since then, side 1 preferred. */
    private static void busy(TreeSync x) {
        x.folder(0, 0);
        x.folder(0, 4);
        x.write(0, 20, 5);
        x.folder(0, 5);
        x.write(0, 1, 3);
        x.step();
        x.write(0, 20, 6);
        x.write(1, 20, 7);
        x.remove(1, 5);
        x.write(1, 1, 4);
        x.folder(0, 2);
        x.write(1, 2, 9);
        x.keep(0, 0);
        x.keep(1, 1);
        x.write(0, 3, 1);
        x.write(1, 3, 1);
        x.prefer(1);
    }

    private static void addPlacing(List<Refused> list) {
        int[][] rows = {{-1, 0, 3, BAD_ARG}, {2, 0, 3, BAD_ARG}, {0, -1, 3, BAD_ARG}, {0, 84, 3, BAD_ARG},
            {0, 0, -1, BAD_ARG}, {0, 0, 84, BAD_ARG}, {0, 6, 84, BAD_ARG}, {0, 6, 7, NONE}, {0, 6, 8, NONE},
            {0, 6, 1, NONE}, {0, 1, 8, NO_PARENT}, {0, 0, 8, NO_PARENT}, {0, 0, 83, NO_PARENT}, {0, 1, 0, EXISTS},
            {0, 0, 0, EXISTS}, {0, 0, 4, EXISTS}, {0, 4, 5, EXISTS}, {0, 0, 6, BAD_ARG}, {0, 0, 21, BAD_ARG},
            {0, 4, 21, BAD_ARG}, {0, 4, 24, BAD_ARG}, {0, 0, 12, BAD_ARG}, {1, 0, 12, NO_PARENT}, {1, 0, 5, BAD_ARG}};
        for (int[] row : rows) {
            String arguments = "(" + row[0] + ", " + row[1] + ", " + row[2] + ")";
            list.add(new Refused("move" + arguments, row[3], (x, a, b, c) -> x.move(row[0], row[1], row[2])));
            list.add(new Refused("copy" + arguments, row[3], (x, a, b, c) -> x.copy(row[0], row[1], row[2])));
        }
    }

    private static void addMaking(List<Refused> list) {
        int[][] rows = {{-1, 3, BAD_ARG, BAD_ARG, BAD_ARG}, {2, 3, BAD_ARG, BAD_ARG, BAD_ARG},
            {0, -1, BAD_ARG, BAD_ARG, BAD_ARG}, {1, 84, BAD_ARG, BAD_ARG, BAD_ARG}, {0, 8, NO_PARENT, NO_PARENT, NONE},
            {1, 12, NO_PARENT, NO_PARENT, NONE}, {0, 83, NO_PARENT, NO_PARENT, NONE}, {0, 0, EXISTS, EXISTS, 0},
            {0, 5, EXISTS, EXISTS, 0}, {0, 1, 0, EXISTS, 0}, {1, 20, 0, EXISTS, 0}, {1, 5, 0, 0, NONE}};
        for (int[] row : rows) {
            String arguments = "(" + row[0] + ", " + row[1] + ")";
            if (row[2] != 0) {
                list.add(new Refused("write" + arguments, row[2], (x, a, b, c) -> x.write(row[0], row[1], 1)));
            }
            if (row[3] != 0) {
                list.add(new Refused("folder" + arguments, row[3], (x, a, b, c) -> x.folder(row[0], row[1])));
            }
            if (row[4] != 0) {
                list.add(new Refused("remove" + arguments, row[4], (x, a, b, c) -> x.remove(row[0], row[1])));
            }
        }
    }

    private static void addKeeping(List<Refused> list) {
        int[][] rows = {{-1, 0, BAD_ARG, BAD_ARG}, {2, 0, BAD_ARG, BAD_ARG}, {0, -1, BAD_ARG, BAD_ARG},
            {1, -1, BAD_ARG, BAD_ARG}, {0, 3, BAD_ARG, BAD_ARG}, {1, 3, BAD_ARG, BAD_ARG}, {2, 2, BAD_ARG, BAD_ARG},
            {0, 2, 0, NONE}, {1, 2, 0, NONE}};
        for (int[] row : rows) {
            String arguments = "(" + row[0] + ", " + row[1] + ")";
            if (row[2] != 0) {
                list.add(new Refused("keep" + arguments, row[2], (x, a, b, c) -> x.keep(row[0], row[1])));
            }
            list.add(new Refused("restore" + arguments, row[3], (x, a, b, c) -> x.restore(row[0], row[1])));
        }
        for (int s : new int[] {-2, 2, MIN, MAX}) {
            list.add(new Refused("prefer(" + s + ")", BAD_ARG, (x, a, b, c) -> x.prefer(s)));
        }
        for (int n : new int[] {-1, MIN}) {
            list.add(new Refused("stepSome(" + n + ")", BAD_ARG, (x, a, b, c) -> x.stepSome(n)));
        }
    }

    private static void addAsking(List<Refused> list) {
        int[][] rows = {{-1, 0, BAD_ARG}, {2, 0, BAD_ARG}, {0, -1, BAD_ARG}, {0, 84, BAD_ARG}};
        for (int[] row : rows) {
            list.add(new Refused("kind", row[2], (x, a, b, c) -> x.kind(row[0], row[1])));
            list.add(new Refused("number", row[2], (x, a, b, c) -> x.number(row[0], row[1])));
            list.add(new Refused("twins", row[2], (x, a, b, c) -> x.twins(row[0], row[1])));
        }
        list.add(new Refused("number", NONE, (x, a, b, c) -> x.number(0, 0)));
        list.add(new Refused("number", NONE, (x, a, b, c) -> x.number(0, 83)));
        list.add(new Refused("lastKind", BAD_ARG, (x, a, b, c) -> x.lastKind(-1)));
        list.add(new Refused("lastKind", BAD_ARG, (x, a, b, c) -> x.lastKind(84)));
        list.add(new Refused("size", BAD_ARG, (x, a, b, c) -> x.size(2)));
        list.add(new Refused("changed", BAD_ARG, (x, a, b, c) -> x.changed(2)));
        list.add(new Refused("action", BAD_ARG, (x, a, b, c) -> x.action(0, 2)));
        list.add(new Refused("action", NONE, (x, a, b, c) -> x.action(4, 0)));
        list.add(new Refused("conflict", NONE, (x, a, b, c) -> x.conflict(2)));
        list.add(new Refused("actions, refused nothing", 4, (x, a, b, c) -> x.actions()));
        list.add(new Refused("conflicts, refused nothing", 2, (x, a, b, c) -> x.conflicts()));
        list.add(new Refused("same, refused nothing", 0, (x, a, b, c) -> x.same() ? 1 : 0));
    }

    private static final int LOOKS = 6;

    /** One part of all that can be seen of an object; the parts together are too many calls for one object. */
    private static String seen(TreeSync x, int look) {
        StringBuilder all = new StringBuilder();
        if (look == 0) {
            all.append(x.actions()).append(' ').append(x.conflicts()).append(' ');
            for (int i = 0; i < 6; i++) {
                all.append(x.action(i, 0)).append(' ').append(x.action(i, 1)).append(' ');
                all.append(x.conflict(i)).append(' ');
            }
        } else if (look < 4) {
            all.append(x.restore(1, look - 1)).append(' ');
        } else if (look == 4) {
            all.append(x.step()).append(' ');
        }
        all.append(x.changed(0)).append(' ').append(x.changed(1)).append(' ');
        for (int p = 0; p < 84; p++) {
            all.append(x.kind(0, p)).append(look == 5 ? x.lastKind(p) : x.number(0, p)).append(' ');
            all.append(x.kind(1, p)).append(x.number(1, p)).append(' ');
        }
        return all.toString();
    }

    private static void refusedCallsChangeNothing() {
        List<Refused> list = new ArrayList<>();
        addPlacing(list);
        addMaking(list);
        addKeeping(list);
        addAsking(list);
        for (int look = 0; look < LOOKS; look++) {
            TreeSync untouched = new TreeSync();
            busy(untouched);
            String want = seen(untouched, look);
            for (Refused refused : list) {
                where = " (" + refused.call + ", look " + look + ")";
                TreeSync x = new TreeSync();
                busy(x);
                due(refused.on.on(x, 0, 0, 0), refused.code);
                if (!seen(x, look).equals(want)) {
                    tell("something has changed");
                }
            }
        }
    }

    private static void paths() {
        holds("at most 512 calls after it has been made", TermsTest::allOf512Calls);
        holds("PATHS are 0 to 83", TermsTest::pathsAre0To83);
        holds("0 to 3 stand in the ROOT with the names 0 to 3", TermsTest::fourStandInTheRoot);
        holds("4 + 4 p + n stands in path p (0 to 3) with the name n", TermsTest::sixteenStandInThose);
        holds("20 + 4 q + n stands in path 4 + q (q from 0 to 15) with the name n", TermsTest::sixtyFourStandInThose);
        holds("nothing stands in paths 20 to 83", TermsTest::nothingStandsInThePathsFrom20On);
        holds("a FILE with a number (an int)", TermsTest::numbersAreInts);
        holds("one that stands in another path is nothing unless that is a folder",
            TermsTest::nothingStandsInWhatIsNoFolder);
        holds("if it is a folder, the contents of the four paths that stand in it",
            TermsTest::contentIsAllThatStandsInIt);
        holds("a folder at a path from 20 on has the same content as one elsewhere in which nothing stands",
            TermsTest::foldersFrom20OnAreEmptyOnes);
        holds("at first all three are nothing everywhere", TermsTest::atFirstAllIsNothing);
    }

    private static void stepping() {
        holds("STEPPING goes over the paths 0 to 3, in this order", TermsTest::steppingGoesOver0To3InThisOrder);
        holds("if its contents are the same on both sides, its content in the last tree becomes that, too",
            TermsTest::equalContentsGoToTheLastTree);
        holds("where it was one it keeps what stands in it", TermsTest::aFolderInTheLastTreeKeepsWhatStandsInIt);
        holds("if it is a folder on both sides, it becomes a folder in the last tree",
            TermsTest::anEmptyFolderInTheLastTreeStaysOne);
        holds("else nothing stands in it", TermsTest::elseNothingStandsInIt);
        holds("the same is done with the four paths that stand in it", TermsTest::theSameIsDoneWithTheFourPathsInIt);
        holds("the same is done with the four paths that stand in it: all 64",
            TermsTest::allTwentyFoldersAreGoneThrough);
        holds("for p from 20 on: nothing is left to do", TermsTest::foldersFrom20OnLeaveNothingToDo);
        holds("if its content on side 0 is that in the last tree, side 0 and the last tree get the content of side 1",
            () -> sideIsAsInTheLastTree(0));
        holds("if its content on side 1 is that in the last tree, side 1 and the last tree get that of side 0",
            () -> sideIsAsInTheLastTree(1));
        holds("else it is a CONFLICT", TermsTest::elseItIsAConflict);
        holds("if side 0 is PREFERRED, the other one and the last tree get its content there",
            () -> sideIsPreferred(0));
        holds("if side 1 is PREFERRED, the other one and the last tree get its content there",
            () -> sideIsPreferred(1));
        holds("else nothing is done", TermsTest::noneIsPreferred);
        holds("Getting a content at a path is an ACTION", TermsTest::anActionForAWholeContent);
    }

    private static void refusals() {
        holds("with a side s, one that is not 0 or 1 answers BAD_ARG before anything else",
            () -> sweepAll(callsWithASideAlone()));
        holds("with a path p, one that is not 0 to 83 answers BAD_ARG before anything else",
            () -> sweepAll(callsWithAPath()));
        holds("No call ever throws", TermsTest::noCallThrows);
        holds("A refused call answers the code named and changes nothing", TermsTest::refusedCallsChangeNothing);
        holds("The constants", TermsTest::constants);
    }

    public static void main(String[] args) {
        paths();
        stepping();
        refusals();
        System.out.println(wrong == 0 ? "all answers are as due" : wrong + " answers are not as due");
        if (wrong != 0) {
            System.exit(1);
        }
    }
}
