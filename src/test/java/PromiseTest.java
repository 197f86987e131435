/** For each promise of the document: ordinary inputs, the edges it names, and wrong inputs. */
public final class PromiseTest {
    private static final int BAD_ARG = -1000000001;
    private static final int NO_PARENT = -1000000002;
    private static final int EXISTS = -1000000003;
    private static final int NONE = -1000000004;
    private static final int[] NO_SIDES = {-1, 2, 3, Integer.MIN_VALUE, Integer.MAX_VALUE};
    private static final int[] NO_PATHS = {-1, 84, 85, 168, Integer.MIN_VALUE, Integer.MAX_VALUE};

    private static int promise = 0;
    private static int row = 0;
    private static int wrong = 0;

    private static void due(long got, long want) {
        check(got == want, got + ", due is " + want);
    }

    private static void due(boolean got, boolean want) {
        check(got == want, got + ", due is " + want);
    }

    private static void check(boolean right, String answer) {
        row++;
        if (!right) {
            wrong++;
            int line = new Throwable().getStackTrace()[2].getLineNumber();
            System.out.println("promise " + promise + ", row " + row + " (line " + line + "): answered " + answer);
        }
    }

    private static TreeSync begin(int number) {
        promise = number;
        row = 0;
        return new TreeSync();
    }

    /** Side s gets folder 0, file 4, folder 5 with file 24 in it, and file 1: five paths. */
    private static void fill(TreeSync x, int s) {
        due(x.folder(s, 0), 0);
        due(x.write(s, 4, 7), 0);
        due(x.folder(s, 5), 0);
        due(x.write(s, 24, 8), 0);
        due(x.write(s, 1, 3), 0);
    }

    private static void newObject() {
        TreeSync x = begin(1);
        for (int p = 0; p < 84; p++) {
            due(x.kind(0, p), 0);
            due(x.kind(1, p), 0);
            due(x.lastKind(p), 0);
        }
        for (int k = 0; k < 3; k++) {
            due(x.restore(0, k), NONE);
            due(x.restore(1, k), NONE);
        }
        due(x.size(0), 0);
        due(x.size(1), 0);
        due(x.same(), true);
        due(x.write(0, 0, 1), 0);
        due(x.write(1, 0, 2), 0);
        due(x.actions(), 0);
        due(x.conflicts(), 1);
        TreeSync other = new TreeSync();
        due(other.size(0), 0);
        due(x.size(0), 1);
    }

    private static void write() {
        TreeSync x = begin(2);
        for (int s : NO_SIDES) {
            due(x.write(s, 0, 1), BAD_ARG);
            due(x.write(s, 99, 1), BAD_ARG);
        }
        for (int p : NO_PATHS) {
            due(x.write(0, p, 1), BAD_ARG);
        }
        for (int p = 4; p < 84; p++) {
            due(x.write(0, p, 1), NO_PARENT);
        }
        due(x.size(0), 0);
        due(x.write(0, 0, 5), 0);
        due(x.write(0, 0, 6), 1);
        due(x.write(0, 0, 6), 1);
        due(x.number(0, 0), 6);
        due(x.kind(1, 0), 0);
        due(x.write(0, 4, 1), NO_PARENT);
        due(x.folder(0, 3), 0);
        due(x.write(0, 3, 1), EXISTS);
        due(x.kind(0, 3), 2);
        due(x.write(0, 19, Integer.MIN_VALUE), 0);
        due(x.write(0, 80, 1), NO_PARENT);
        due(x.write(1, 19, 1), NO_PARENT);
        due(x.number(0, 19), Integer.MIN_VALUE);
        due(x.remove(0, 19), 1);
        due(x.folder(0, 19), 0);
        due(x.write(0, 83, Integer.MAX_VALUE), 0);
        due(x.write(0, 83, 0), 1);
        due(x.write(0, 83, BAD_ARG), 1);
        due(x.number(0, 83), BAD_ARG);
        due(x.size(0), 4);
    }

    private static void folder() {
        TreeSync x = begin(3);
        for (int s : NO_SIDES) {
            due(x.folder(s, 0), BAD_ARG);
        }
        for (int p : NO_PATHS) {
            due(x.folder(1, p), BAD_ARG);
        }
        due(x.folder(1, 4), NO_PARENT);
        due(x.folder(1, 20), NO_PARENT);
        due(x.folder(1, 0), 0);
        due(x.folder(1, 0), EXISTS);
        due(x.folder(0, 4), NO_PARENT);
        due(x.folder(1, 8), NO_PARENT);
        due(x.write(1, 4, 2), 0);
        due(x.folder(1, 4), EXISTS);
        due(x.kind(1, 4), 1);
        due(x.folder(1, 20), NO_PARENT);
        due(x.folder(1, 7), 0);
        due(x.folder(1, 35), 0);
        due(x.folder(1, 35), EXISTS);
        due(x.folder(1, 36), NO_PARENT);
        due(x.size(1), 4);
        due(x.remove(1, 0), 4);
        due(x.folder(1, 0), 0);
        due(x.size(1), 1);
    }

    /** Which path stands in which: each of the 84 can be made exactly when its parent is there. */
    private static void shape() {
        for (int p = 0; p < 4; p++) {
            TreeSync x = begin(3);
            due(x.folder(0, p), 0);
            for (int n = 0; n < 4; n++) {
                int inner = 4 + 4 * p + n;
                due(x.folder(0, inner), 0);
                for (int m = 0; m < 4; m++) {
                    due(x.write(0, 20 + 4 * (inner - 4) + m, m), 0);
                }
            }
            due(x.size(0), 21);
            for (int q = 4; q < 84; q++) {
                boolean below = q < 20 ? (q - 4) / 4 == p : (q - 20) / 16 == p;
                due(x.kind(0, q) != 0, below);
            }
            due(x.remove(0, p), 21);
            due(x.size(0), 0);
        }
    }

    private static void remove() {
        TreeSync x = begin(4);
        for (int s : NO_SIDES) {
            due(x.remove(s, 0), BAD_ARG);
        }
        for (int p : NO_PATHS) {
            due(x.remove(0, p), BAD_ARG);
        }
        due(x.remove(0, 0), NONE);
        due(x.remove(0, 83), NONE);
        fill(x, 0);
        fill(x, 1);
        due(x.remove(0, 25), NONE);
        due(x.remove(0, 5), 2);
        due(x.kind(0, 24), 0);
        due(x.kind(0, 5), 0);
        due(x.kind(0, 4), 1);
        due(x.remove(0, 5), NONE);
        due(x.remove(0, 1), 1);
        due(x.remove(0, 0), 2);
        due(x.size(0), 0);
        due(x.size(1), 5);
        due(x.remove(1, 24), 1);
        due(x.remove(1, 0), 3);
        due(x.size(1), 1);
        due(x.folder(1, 0), 0);
        due(x.folder(1, 5), 0);
        due(x.kind(1, 24), 0);
    }

    private static int place(TreeSync x, boolean moving, int s, int p, int q) {
        return moving ? x.move(s, p, q) : x.copy(s, p, q);
    }

    /** The refusals that move and copy share, each before the next one in the document's order. */
    private static void placeRefusals(boolean moving) {
        TreeSync x = begin(moving ? 5 : 6);
        for (int s : NO_SIDES) {
            due(place(x, moving, s, 0, 1), BAD_ARG);
        }
        for (int p : NO_PATHS) {
            due(place(x, moving, 0, p, 1), BAD_ARG);
            due(place(x, moving, 0, 0, p), BAD_ARG);
        }
        due(place(x, moving, 0, 0, 4), NONE);
        due(place(x, moving, 0, 0, 0), NONE);
        due(x.write(0, 3, 1), 0);
        due(place(x, moving, 0, 0, 3), NONE);
        due(place(x, moving, 0, 3, 4), NO_PARENT);
        due(place(x, moving, 0, 3, 16), NO_PARENT);
        due(place(x, moving, 0, 3, 20), NO_PARENT);
        due(place(x, moving, 0, 3, 3), EXISTS);
        due(x.folder(0, 0), 0);
        due(place(x, moving, 0, 0, 0), EXISTS);
        due(place(x, moving, 0, 0, 4), BAD_ARG);
        due(place(x, moving, 0, 0, 7), BAD_ARG);
        due(place(x, moving, 0, 0, 20), NO_PARENT);
        due(x.folder(0, 4), 0);
        due(place(x, moving, 0, 4, 20), BAD_ARG);
        due(place(x, moving, 0, 4, 23), BAD_ARG);
        due(place(x, moving, 0, 0, 20), BAD_ARG);
        due(place(x, moving, 0, 4, 0), EXISTS);
        due(place(x, moving, 0, 0, 4), EXISTS);
        due(place(x, moving, 1, 0, 2), NONE);
        due(x.size(0), 3);
    }

    /** A folder must have room for what stands in it where it comes to. */
    private static void placeDepths(boolean moving) {
        TreeSync x = begin(moving ? 5 : 6);
        due(x.folder(0, 0), 0);
        due(x.folder(0, 4), 0);
        due(x.folder(0, 20), 0);
        due(x.folder(0, 1), 0);
        due(x.folder(0, 8), 0);
        due(place(x, moving, 0, 0, 9), BAD_ARG);
        due(place(x, moving, 0, 0, 36), BAD_ARG);
        due(place(x, moving, 0, 4, 36), BAD_ARG);
        due(x.size(0), 5);
        due(place(x, moving, 0, 20, 36), 0);
        due(x.kind(0, 36), 2);
        due(x.kind(0, 20), moving ? 0 : 2);
        TreeSync y = begin(moving ? 5 : 6);
        due(y.folder(0, 0), 0);
        due(y.write(0, 5, 6), 0);
        due(y.folder(0, 1), 0);
        due(y.folder(0, 8), 0);
        due(place(y, moving, 0, 0, 36), BAD_ARG);
        due(place(y, moving, 0, 0, 11), 0);
        due(y.kind(0, 11), 2);
        due(y.number(0, 49), 6);
        due(y.kind(0, 48), 0);
        due(y.kind(0, 5), moving ? 0 : 1);
        due(place(y, moving, 0, 11, 3), 0);
        due(y.number(0, 17), 6);
        due(y.size(0), moving ? 4 : 8);
        due(place(y, moving, 0, 17, 2), 0);
        due(y.number(0, 2), 6);
    }

    /** The first path of each level is refused as the others are, and what stands next to p does not count. */
    private static void placeFirstOfLevel(boolean moving) {
        TreeSync x = begin(moving ? 5 : 6);
        due(x.folder(0, 0), 0);
        due(x.folder(0, 2), 0);
        due(x.folder(0, 3), 0);
        due(x.folder(0, 16), 0);
        due(x.write(0, 68, 1), 0);
        due(place(x, moving, 0, 3, 4), BAD_ARG);
        due(x.folder(0, 4), 0);
        due(place(x, moving, 0, 16, 20), BAD_ARG);
        due(place(x, moving, 0, 3, 20), BAD_ARG);
        due(x.size(0), 6);
        due(place(x, moving, 0, 2, 20), 0);
        due(place(x, moving, 0, 16, 7), 0);
        due(x.number(0, 32), 1);
        due(place(x, moving, 0, 0, 1), 0);
        due(x.kind(0, 24), 0);
        due(x.kind(0, 36), 2);
        due(x.number(0, 48), 1);
    }

    private static void placeContent(boolean moving) {
        TreeSync x = begin(moving ? 5 : 6);
        fill(x, 0);
        fill(x, 1);
        due(x.folder(0, 26), 0);
        due(place(x, moving, 0, 0, 3), 0);
        due(x.kind(0, 3), 2);
        due(x.number(0, 16), 7);
        due(x.kind(0, 17), 2);
        due(x.number(0, 72), 8);
        due(x.kind(0, 73), 0);
        due(x.kind(0, 74), 2);
        due(x.size(0), moving ? 6 : 11);
        int[] before = {0, 4, 5, 24, 26};
        int[] kinds = {2, 1, 2, 1, 2};
        for (int i = 0; i < before.length; i++) {
            due(x.kind(0, before[i]), moving ? 0 : kinds[i]);
        }
        due(x.size(1), 5);
        due(x.lastKind(3), 0);
        due(place(x, moving, 0, 17, 2), 0);
        due(x.number(0, 12), 8);
        due(x.kind(0, 14), 2);
        due(x.kind(0, 17), moving ? 0 : 2);
        due(x.kind(0, 72), moving ? 0 : 1);
        due(place(x, moving, 0, 1, 13), 0);
        due(x.number(0, 13), 3);
        due(x.kind(0, 1), moving ? 0 : 1);
        due(place(x, moving, 0, 13, 15), 0);
        due(x.kind(0, 13), moving ? 0 : 1);
        due(x.write(0, 15, 4), 1);
        due(x.number(0, 13), moving ? NONE : 3);
    }

    private static void kind() {
        TreeSync x = begin(7);
        for (int s : NO_SIDES) {
            due(x.kind(s, 0), BAD_ARG);
        }
        for (int p : NO_PATHS) {
            due(x.kind(0, p), BAD_ARG);
            due(x.kind(1, p), BAD_ARG);
        }
        fill(x, 1);
        due(x.kind(1, 0), 2);
        due(x.kind(1, 4), 1);
        due(x.kind(1, 6), 0);
        due(x.kind(1, 24), 1);
        due(x.kind(1, 83), 0);
        due(x.kind(0, 0), 0);
    }

    private static void number() {
        TreeSync x = begin(8);
        for (int s : NO_SIDES) {
            due(x.number(s, 0), BAD_ARG);
        }
        for (int p : NO_PATHS) {
            due(x.number(0, p), BAD_ARG);
        }
        due(x.number(0, 0), NONE);
        fill(x, 0);
        due(x.number(0, 0), NONE);
        due(x.number(0, 4), 7);
        due(x.number(0, 24), 8);
        due(x.number(0, 83), NONE);
        due(x.number(1, 4), NONE);
        due(x.write(0, 1, -5), 1);
        due(x.number(0, 1), -5);
        due(x.remove(0, 1), 1);
        due(x.number(0, 1), NONE);
    }

    private static void lastKind() {
        TreeSync x = begin(9);
        for (int p : NO_PATHS) {
            due(x.lastKind(p), BAD_ARG);
        }
        fill(x, 0);
        due(x.lastKind(0), 0);
        due(x.step(), 2);
        due(x.lastKind(0), 2);
        due(x.lastKind(4), 1);
        due(x.lastKind(5), 2);
        due(x.lastKind(24), 1);
        due(x.lastKind(83), 0);
        due(x.remove(0, 0), 4);
        due(x.remove(1, 0), 4);
        due(x.lastKind(24), 1);
        due(x.step(), 0);
        due(x.lastKind(24), 0);
        due(x.lastKind(0), 0);
    }

    private static void size() {
        TreeSync x = begin(10);
        for (int s : NO_SIDES) {
            due(x.size(s), BAD_ARG);
        }
        fill(x, 0);
        due(x.size(0), 5);
        due(x.size(1), 0);
        for (int p = 0; p < 84; p++) {
            x.folder(1, p);
        }
        due(x.size(1), 84);
        due(x.size(0), 5);
    }

    private static void changed() {
        TreeSync x = begin(11);
        for (int s : NO_SIDES) {
            due(x.changed(s), BAD_ARG);
        }
        due(x.changed(0), 0);
        fill(x, 0);
        due(x.changed(0), 5);
        due(x.changed(1), 0);
        due(x.step(), 2);
        due(x.changed(0), 0);
        due(x.changed(1), 0);
        due(x.write(0, 4, 7), 1);
        due(x.changed(0), 0);
        due(x.write(0, 4, 8), 1);
        due(x.changed(0), 1);
        due(x.remove(0, 4), 1);
        due(x.folder(0, 4), 0);
        due(x.changed(0), 1);
        due(x.remove(0, 5), 2);
        due(x.changed(0), 3);
        due(x.write(1, 83, 1), NO_PARENT);
        due(x.changed(1), 0);
        due(x.write(0, 5, 0), 0);
        due(x.changed(0), 3);
        due(x.write(0, 2, 0), 0);
        due(x.changed(0), 4);
    }

    private static void twins() {
        TreeSync x = begin(12);
        for (int s : NO_SIDES) {
            due(x.twins(s, 0), BAD_ARG);
        }
        for (int p : NO_PATHS) {
            due(x.twins(0, p), BAD_ARG);
        }
        due(x.twins(0, 83), 0);
        due(x.folder(0, 0), 0);
        due(x.twins(0, 0), 0);
        due(x.folder(0, 1), 0);
        due(x.twins(0, 0), 1);
        due(x.folder(0, 4), 0);
        due(x.twins(0, 0), 0);
        due(x.twins(0, 4), 1);
        due(x.folder(0, 20), 0);
        due(x.twins(0, 4), 0);
        due(x.twins(0, 20), 1);
        due(x.twins(0, 1), 1);
        due(x.write(0, 5, 0), 0);
        due(x.twins(0, 5), 0);
        due(x.write(0, 23, 0), 0);
        due(x.twins(0, 5), 1);
        due(x.write(0, 23, 1), 1);
        due(x.twins(0, 5), 0);
        due(x.twins(1, 5), 0);
        TreeSync y = begin(12);
        due(y.folder(1, 0), 0);
        due(y.folder(1, 4), 0);
        due(y.folder(1, 5), 0);
        due(y.write(1, 20, 1), 0);
        due(y.write(1, 25, 1), 0);
        due(y.twins(1, 4), 0);
        due(y.move(1, 25, 24), 0);
        due(y.twins(1, 4), 1);
        due(y.copy(1, 4, 2), 0);
        due(y.twins(1, 4), 2);
        due(y.twins(1, 2), 2);
        due(y.twins(1, 20), 2);
        due(y.twins(0, 2), 0);
    }

    private static void same() {
        TreeSync x = begin(13);
        due(x.same(), true);
        fill(x, 0);
        due(x.same(), false);
        fill(x, 1);
        due(x.same(), true);
        due(x.write(1, 24, 9), 1);
        due(x.same(), false);
        due(x.write(0, 24, 9), 1);
        due(x.same(), true);
        due(x.write(0, 3, 0), 0);
        due(x.folder(1, 3), 0);
        due(x.same(), false);
        due(x.remove(1, 3), 1);
        due(x.same(), false);
        due(x.remove(0, 3), 1);
        due(x.same(), true);
    }

    private static void actions() {
        TreeSync x = begin(14);
        due(x.actions(), 0);
        fill(x, 0);
        due(x.actions(), 2);
        due(x.size(1), 0);
        due(x.lastKind(0), 0);
        fill(x, 1);
        due(x.actions(), 0);
        due(x.lastKind(0), 0);
        due(x.write(0, 24, 1), 1);
        due(x.actions(), 0);
        due(x.conflicts(), 1);
        due(x.prefer(1), 0);
        due(x.actions(), 1);
        due(x.number(0, 24), 1);
        due(x.prefer(-1), 0);
        due(x.actions(), 0);
    }

    /** Every path that can get something alone: 64 actions, as many as there can be. */
    private static void manyActions() {
        TreeSync x = begin(14);
        for (int p = 0; p < 20; p++) {
            due(x.folder(0, p), 0);
            due(x.folder(1, p), 0);
        }
        for (int p = 20; p < 84; p++) {
            due(x.write(p % 2, p, p), 0);
        }
        due(x.actions(), 64);
        for (int i = 0; i < 64; i++) {
            due(x.action(i, 0), 20 + i);
            due(x.action(i, 1), 1 - i % 2);
        }
        due(x.action(64, 0), NONE);
        due(x.step(), 64);
        due(x.same(), true);
        due(x.size(0), 84);
    }

    private static void action() {
        TreeSync x = begin(15);
        due(x.action(0, 2), BAD_ARG);
        due(x.action(0, -1), BAD_ARG);
        due(x.action(-1, 2), BAD_ARG);
        due(x.action(0, Integer.MIN_VALUE), BAD_ARG);
        due(x.action(0, 0), NONE);
        due(x.action(0, 1), NONE);
        fill(x, 0);
        due(x.step(), 2);
        due(x.write(1, 24, 1), 1);
        due(x.write(0, 6, 1), 0);
        due(x.write(1, 7, 1), 0);
        due(x.remove(0, 1), 1);
        int[] paths = {24, 6, 7, 1};
        int[] sides = {0, 1, 0, 1};
        due(x.actions(), 4);
        for (int i = 0; i < 4; i++) {
            due(x.action(i, 0), paths[i]);
            due(x.action(i, 1), sides[i]);
        }
        due(x.action(4, 0), NONE);
        due(x.action(4, 1), NONE);
        due(x.action(-1, 0), NONE);
        due(x.action(Integer.MAX_VALUE, 0), NONE);
        due(x.action(Integer.MIN_VALUE, 1), NONE);
        due(x.action(4, 2), BAD_ARG);
        due(x.write(0, 24, 2), 1);
        due(x.action(0, 0), 6);
        due(x.prefer(0), 0);
        due(x.action(0, 0), 24);
        due(x.action(0, 1), 1);
        due(x.prefer(1), 0);
        due(x.action(0, 1), 0);
    }

    private static void conflicts() {
        TreeSync x = begin(16);
        due(x.conflicts(), 0);
        due(x.write(0, 0, 1), 0);
        due(x.conflicts(), 0);
        due(x.write(1, 0, 2), 0);
        due(x.conflicts(), 1);
        due(x.write(0, 2, 1), 0);
        due(x.folder(1, 2), 0);
        due(x.conflicts(), 2);
        due(x.prefer(0), 0);
        due(x.conflicts(), 2);
        due(x.prefer(1), 0);
        due(x.conflicts(), 2);
        due(x.write(1, 0, 1), 1);
        due(x.conflicts(), 1);
        due(x.step(), 1);
        due(x.conflicts(), 0);
        due(x.write(0, 0, 5), 1);
        due(x.remove(1, 0), 1);
        due(x.conflicts(), 1);
        due(x.write(0, 0, 1), 1);
        due(x.conflicts(), 0);
    }

    private static void conflict() {
        TreeSync x = begin(17);
        due(x.conflict(0), NONE);
        due(x.conflict(-1), NONE);
        due(x.write(0, 3, 1), 0);
        due(x.folder(0, 0), 0);
        due(x.folder(1, 0), 0);
        due(x.folder(0, 7), 0);
        due(x.folder(1, 7), 0);
        due(x.write(0, 35, 1), 0);
        due(x.write(1, 35, 2), 0);
        due(x.write(0, 5, 1), 0);
        due(x.write(1, 5, 2), 0);
        due(x.write(0, 1, 1), 0);
        due(x.folder(1, 1), 0);
        due(x.conflict(0), 5);
        due(x.conflict(1), 35);
        due(x.conflict(2), 1);
        due(x.conflict(3), NONE);
        due(x.conflict(-1), NONE);
        due(x.conflict(Integer.MAX_VALUE), NONE);
        due(x.conflict(Integer.MIN_VALUE), NONE);
        due(x.prefer(1), 0);
        due(x.conflict(2), 1);
        due(x.conflict(3), NONE);
        due(x.lastKind(0), 0);
    }

    private static void prefer() {
        for (int s = 0; s < 2; s++) {
            TreeSync x = begin(18);
            due(x.folder(0, 2), 0);
            due(x.write(0, 12, 4), 0);
            due(x.write(1, 2, 9), 0);
            due(x.prefer(s), 0);
            due(x.prefer(2), BAD_ARG);
            due(x.prefer(-2), BAD_ARG);
            due(x.prefer(Integer.MIN_VALUE), BAD_ARG);
            due(x.prefer(Integer.MAX_VALUE), BAD_ARG);
            due(x.actions(), 1);
            due(x.action(0, 1), 1 - s);
            due(x.step(), 1);
            due(x.kind(0, 2), s == 0 ? 2 : 1);
            due(x.kind(1, 2), s == 0 ? 2 : 1);
            due(x.kind(1 - s, 12), s == 0 ? 1 : 0);
            due(x.lastKind(12), s == 0 ? 1 : 0);
            due(x.lastKind(2), s == 0 ? 2 : 1);
            due(x.changed(0), 0);
            due(x.changed(1), 0);
        }
    }

    private static void preferDoesNotHinderOthers() {
        TreeSync x = begin(18);
        due(x.prefer(0), 0);
        due(x.write(1, 0, 1), 0);
        due(x.action(0, 1), 0);
        due(x.step(), 1);
        due(x.number(0, 0), 1);
        due(x.folder(0, 1), 0);
        due(x.folder(1, 1), 0);
        due(x.write(1, 8, 5), 0);
        due(x.step(), 1);
        due(x.number(0, 8), 5);
    }

    private static void step() {
        TreeSync x = begin(19);
        due(x.step(), 0);
        fill(x, 0);
        due(x.step(), 2);
        due(x.number(1, 24), 8);
        due(x.same(), true);
        due(x.step(), 0);
        due(x.remove(1, 5), 2);
        due(x.write(0, 1, 4), 1);
        due(x.step(), 2);
        due(x.kind(0, 24), 0);
        due(x.kind(0, 5), 0);
        due(x.lastKind(24), 0);
        due(x.number(1, 1), 4);
        due(x.changed(0), 0);
        due(x.changed(1), 0);
        // a folder that was changed inside is not the one of the last tree
        due(x.write(0, 4, 1), 1);
        due(x.remove(1, 0), 2);
        due(x.write(1, 0, 1), 0);
        due(x.conflicts(), 1);
        due(x.step(), 0);
        due(x.kind(0, 0), 2);
        due(x.kind(1, 0), 1);
        due(x.lastKind(4), 1);
        due(x.write(0, 4, 7), 1);
        due(x.step(), 1);
        due(x.kind(0, 0), 1);
        due(x.kind(0, 4), 0);
        due(x.lastKind(4), 0);
    }

    /** What was a file in the last tree and is a folder on both sides: nothing stands in it there at first. */
    private static void stepFileToFolders() {
        TreeSync x = begin(19);
        due(x.write(0, 0, 1), 0);
        due(x.step(), 1);
        due(x.remove(0, 0), 1);
        due(x.remove(1, 0), 1);
        due(x.folder(0, 0), 0);
        due(x.folder(1, 0), 0);
        due(x.write(0, 4, 1), 0);
        due(x.write(0, 5, 1), 0);
        due(x.write(1, 5, 2), 0);
        due(x.actions(), 1);
        due(x.conflicts(), 1);
        due(x.lastKind(0), 1);
        due(x.step(), 1);
        due(x.lastKind(0), 2);
        due(x.lastKind(4), 1);
        due(x.lastKind(5), 0);
        due(x.number(1, 4), 1);
        due(x.number(1, 5), 2);
        due(x.changed(0), 1);
        due(x.changed(1), 1);
    }

    /** What was a folder in the last tree and is one on both sides keeps there what stands in it. */
    private static void stepKeepsWhatStandsInFolders() {
        TreeSync x = begin(19);
        fill(x, 0);
        due(x.step(), 2);
        due(x.write(0, 4, 1), 1);
        due(x.write(1, 4, 2), 1);
        due(x.step(), 0);
        due(x.lastKind(4), 1);
        due(x.lastKind(24), 1);
        due(x.changed(0), 1);
        due(x.write(0, 4, 7), 1);
        due(x.step(), 1);
        due(x.number(0, 4), 2);
        due(x.write(0, 24, 5), 1);
        due(x.write(1, 24, 5), 1);
        due(x.changed(0), 1);
        due(x.step(), 0);
        due(x.changed(0), 0);
    }

    private static void stepSome() {
        TreeSync x = begin(20);
        due(x.stepSome(-1), BAD_ARG);
        due(x.stepSome(Integer.MIN_VALUE), BAD_ARG);
        due(x.stepSome(0), 0);
        due(x.stepSome(Integer.MAX_VALUE), 0);
        fill(x, 0);
        due(x.write(0, 3, 1), 0);
        due(x.stepSome(-1), BAD_ARG);
        due(x.size(1), 0);
        due(x.stepSome(0), 0);
        due(x.size(1), 0);
        due(x.stepSome(1), 1);
        due(x.size(1), 4);
        due(x.lastKind(24), 1);
        due(x.lastKind(1), 0);
        due(x.stepSome(1), 1);
        due(x.number(1, 1), 3);
        due(x.kind(1, 3), 0);
        due(x.stepSome(5), 1);
        due(x.same(), true);
        due(x.stepSome(5), 0);
    }

    /** What needs no action is done up to the action that would be one too many, and not beyond it. */
    private static void stepSomeStops() {
        TreeSync x = begin(20);
        due(x.write(0, 0, 1), 0);
        due(x.write(1, 0, 1), 0);
        due(x.write(0, 1, 1), 0);
        due(x.write(0, 2, 1), 0);
        due(x.write(1, 2, 1), 0);
        due(x.write(1, 3, 1), 0);
        due(x.stepSome(0), 0);
        due(x.lastKind(0), 1);
        due(x.lastKind(1), 0);
        due(x.lastKind(2), 0);
        due(x.stepSome(1), 1);
        due(x.lastKind(1), 1);
        due(x.lastKind(2), 1);
        due(x.lastKind(3), 0);
        due(x.kind(0, 3), 0);
        due(x.stepSome(1), 1);
        due(x.lastKind(3), 1);
        TreeSync y = begin(20);
        due(y.folder(0, 0), 0);
        due(y.folder(1, 0), 0);
        due(y.write(0, 7, 1), 0);
        due(y.write(0, 1, 1), 0);
        due(y.write(1, 1, 1), 0);
        due(y.stepSome(0), 0);
        due(y.lastKind(0), 2);
        due(y.lastKind(7), 0);
        due(y.lastKind(1), 0);
        due(y.stepSome(1), 1);
        due(y.lastKind(7), 1);
        due(y.lastKind(1), 1);
    }

    private static void stepSomeAndConflicts() {
        TreeSync x = begin(20);
        due(x.write(0, 0, 1), 0);
        due(x.write(1, 0, 2), 0);
        due(x.write(0, 1, 1), 0);
        due(x.write(1, 1, 1), 0);
        due(x.write(1, 2, 3), 0);
        due(x.stepSome(0), 0);
        due(x.lastKind(0), 0);
        due(x.lastKind(1), 1);
        due(x.kind(0, 2), 0);
        due(x.prefer(1), 0);
        due(x.stepSome(0), 0);
        due(x.number(0, 0), 1);
        due(x.stepSome(1), 1);
        due(x.number(0, 0), 2);
        due(x.lastKind(0), 1);
        due(x.kind(0, 2), 0);
        due(x.stepSome(1), 1);
        due(x.number(0, 2), 3);
    }

    private static void keep() {
        TreeSync x = begin(21);
        for (int s : NO_SIDES) {
            due(x.keep(s, 0), BAD_ARG);
        }
        for (int k : new int[] {-1, 3, 4, Integer.MIN_VALUE, Integer.MAX_VALUE}) {
            due(x.keep(0, k), BAD_ARG);
            due(x.keep(1, k), BAD_ARG);
        }
        due(x.restore(0, 0), NONE);
        fill(x, 1);
        due(x.keep(0, 0), 0);
        due(x.keep(1, 1), 5);
        due(x.write(1, 2, 2), 0);
        due(x.keep(1, 2), 6);
        due(x.size(1), 6);
        due(x.restore(1, 1), 5);
        due(x.kind(1, 2), 0);
        due(x.restore(1, 2), 6);
        due(x.number(1, 2), 2);
        due(x.keep(1, 1), 6);
        due(x.restore(0, 1), 6);
        due(x.same(), true);
        due(x.keep(0, 3), BAD_ARG);
        due(x.restore(0, 0), 0);
        due(x.size(0), 0);
    }

    private static void restore() {
        TreeSync x = begin(22);
        due(x.keep(0, 1), 0);
        for (int s : NO_SIDES) {
            due(x.restore(s, 1), BAD_ARG);
            due(x.restore(s, 0), BAD_ARG);
        }
        for (int k : new int[] {-1, 3, 4, Integer.MIN_VALUE, Integer.MAX_VALUE}) {
            due(x.restore(0, k), BAD_ARG);
        }
        due(x.restore(0, 0), NONE);
        due(x.restore(0, 2), NONE);
        fill(x, 0);
        due(x.step(), 2);
        due(x.keep(0, 2), 5);
        due(x.restore(0, 0), NONE);
        due(x.size(0), 5);
        due(x.restore(0, 1), 0);
        due(x.size(0), 0);
        due(x.lastKind(0), 2);
        due(x.size(1), 5);
        due(x.changed(0), 5);
        due(x.restore(0, 2), 5);
        due(x.changed(0), 0);
        due(x.number(0, 24), 8);
        due(x.restore(0, 2), 5);
        due(x.write(0, 24, 1), 1);
        due(x.restore(1, 2), 5);
        due(x.number(1, 24), 8);
        due(x.number(0, 24), 1);
    }

    private static void orderAndLimits() {
        TreeSync x = begin(23);
        due(x.write(0, 0, 1), 0);
        due(x.write(1, 0, 2), 0);
        due(x.prefer(-1), 0);
        due(x.actions(), 0);
        due(x.prefer(0), 0);
        due(x.actions(), 1);
        due(x.prefer(-2), BAD_ARG);
        due(x.actions(), 1);
        due(x.prefer(-1), 0);
        due(x.actions(), 0);
        due(x.step(), 0);
        due(x.number(0, 0), 1);
        due(x.number(1, 0), 2);
        due(x.conflicts(), 1);
    }

    public static void main(String[] args) {
        newObject();
        write();
        folder();
        shape();
        remove();
        for (int i = 0; i < 2; i++) {
            placeRefusals(i == 0);
            placeDepths(i == 0);
            placeFirstOfLevel(i == 0);
            placeContent(i == 0);
        }
        kind();
        number();
        lastKind();
        size();
        changed();
        twins();
        same();
        actions();
        manyActions();
        action();
        conflicts();
        conflict();
        prefer();
        preferDoesNotHinderOthers();
        step();
        stepFileToFolders();
        stepKeepsWhatStandsInFolders();
        stepSome();
        stepSomeStops();
        stepSomeAndConflicts();
        keep();
        restore();
        orderAndLimits();
        System.out.println(wrong == 0 ? "all answers are as due" : wrong + " answers are not as due");
        if (wrong != 0) {
            System.exit(1);
        }
    }
}
