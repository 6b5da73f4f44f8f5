/** Each boundary that promises 1 to 4 and 15 name, with a test of its own: the calls that change a tree. */
public final class ChangeEdgesTest {
    private static final int BAD = Edges.BAD;
    private static final int FULL = Edges.FULL;
    private static final int MIN = Edges.MIN;
    private static final int MAX = Edges.MAX;
    private static final Due DUE = new Due();

    public static void main(String[] args) {
        newObject();
        splitAccepted();
        splitRefused();
        splitFull();
        setValueAccepted();
        setValueRefused();
        clearAccepted();
        clearRefused();
        orderAndLimits();
        DUE.end();
    }

    private static void newObject() {
        DUE.sentence("1: all trees are one leaf", ChangeEdgesTest::newTreesAreOneLeaf);
        DUE.sentence("1: a new tree has no second leaf", ChangeEdgesTest::newTreesHaveNoSecondLeaf);
        DUE.sentence("1: a new object has no forks", ChangeEdgesTest::newTreesHaveNoForks);
        DUE.sentence("1: a leaf's value is 0 at first", ChangeEdgesTest::newLeavesHaveValue0);
    }

    private static void splitAccepted() {
        DUE.sentence("2: a feature at the limit goes left, one above it right", ChangeEdgesTest::splitAtEachLimit);
        DUE.sentence("2: the least limit, 0", ChangeEdgesTest::splitLimit0);
        DUE.sentence("2: the greatest limit, 15", ChangeEdgesTest::splitLimit15);
        DUE.sentence("2: the first and the last tree and feature", ChangeEdgesTest::splitFirstAndLast);
        DUE.sentence("2: the first leaf: all further leaves move up", ChangeEdgesTest::splitFirstLeaf);
        DUE.sentence("2: a leaf with value 0 moves up like the others", ChangeEdgesTest::splitMovesValue0);
        DUE.sentence("2: the last leaf: no leaf moves", ChangeEdgesTest::splitLastLeaf);
        DUE.sentence("2: the left part has the value that was there, the greatest and least int too",
            ChangeEdgesTest::splitKeepsExtremeValue);
        DUE.sentence("2: the right part has value 0, though an old leaf stood there", ChangeEdgesTest::splitRightIs0);
        DUE.sentence("2: a leaf without points can be split", ChangeEdgesTest::splitLeafWithoutPoints);
    }

    private static void splitRefused() {
        DUE.sentence("2: BAD when t is too small", () -> splitTree(Edges.BELOW_0));
        DUE.sentence("2: BAD when t is too large", () -> splitTree(Edges.ABOVE_3));
        DUE.sentence("2: BAD when f is too small", () -> splitFeature(Edges.BELOW_0));
        DUE.sentence("2: BAD when f is too large", () -> splitFeature(Edges.ABOVE_3));
        DUE.sentence("2: BAD when there is no leaf i: too small", ChangeEdgesTest::splitLeafTooSmall);
        DUE.sentence("2: BAD when there is no leaf i: too large", ChangeEdgesTest::splitLeafTooLarge);
        DUE.sentence("2: BAD when limit is too small", () -> splitLimit(Edges.BELOW_0));
        DUE.sentence("2: BAD when limit is too large", () -> splitLimit(Edges.ABOVE_15));
        DUE.sentence("2: a BAD split changes nothing", ChangeEdgesTest::splitBadChangesNothing);
    }

    private static void splitFull() {
        DUE.sentence("2: not FULL with six forks", ChangeEdgesTest::splitWithSixForks);
        DUE.sentence("2: FULL with seven forks", ChangeEdgesTest::splitWithSevenForks);
        DUE.sentence("2: FULL with seven forks, whatever the tree's form", ChangeEdgesTest::splitFullInEachForm);
        DUE.sentence("2: a tree that is filled leaves the others as they were", ChangeEdgesTest::splitLeavesOthers);
        DUE.sentence("2: one tree being full, the others are not", ChangeEdgesTest::splitOthersNotFull);
        DUE.sentence("2: a FULL split changes nothing", ChangeEdgesTest::splitFullChangesNothing);
    }

    private static void setValueAccepted() {
        DUE.sentence("3: the first and the last leaf", ChangeEdgesTest::setFirstAndLastLeaf);
        DUE.sentence("3: the least and the greatest int", ChangeEdgesTest::setExtremeValues);
        DUE.sentence("3: a leaf without points has a value too", ChangeEdgesTest::setLeafWithoutPoints);
    }

    private static void setValueRefused() {
        DUE.sentence("3: false when there is none: t too small", () -> setTree(Edges.BELOW_0));
        DUE.sentence("3: false when there is none: t too large", () -> setTree(Edges.ABOVE_3));
        DUE.sentence("3: false when there is none: i too small", ChangeEdgesTest::setLeafTooSmall);
        DUE.sentence("3: false when there is none: i too large", ChangeEdgesTest::setLeafTooLarge);
        DUE.sentence("3: false when there is none: gone with a clear", ChangeEdgesTest::setLeafGone);
        DUE.sentence("3: a false setValue changes nothing", ChangeEdgesTest::setFalseChangesNothing);
    }

    private static void clearAccepted() {
        DUE.sentence("4: a tree that is one leaf", ChangeEdgesTest::clearOneLeaf);
        DUE.sentence("4: a full tree", ChangeEdgesTest::clearFullTree);
        DUE.sentence("4: a cleared tree takes seven forks again", ChangeEdgesTest::clearGivesRoom);
        DUE.sentence("4: a cleared tree is like a new one", ChangeEdgesTest::clearIsLikeNew);
        DUE.sentence("4: tree t alone, the first and the last too", ChangeEdgesTest::clearOneAlone);
    }

    private static void clearRefused() {
        DUE.sentence("4: false when t is too small", () -> clearTree(Edges.BELOW_0));
        DUE.sentence("4: false when t is too large", () -> clearTree(Edges.ABOVE_3));
    }

    private static void orderAndLimits() {
        DUE.sentence("15: BAD before FULL: t too small", () -> fullTree(Edges.BELOW_0));
        DUE.sentence("15: BAD before FULL: t too large", () -> fullTree(Edges.ABOVE_3));
        DUE.sentence("15: BAD before FULL: i too small", () -> fullLeaf(Edges.BELOW_0));
        DUE.sentence("15: BAD before FULL: i too large", () -> fullLeaf(new int[] {8, 9, 15, 16, 32, 1 << 29, MAX}));
        DUE.sentence("15: BAD before FULL: f too small", () -> fullFeature(Edges.BELOW_0));
        DUE.sentence("15: BAD before FULL: f too large", () -> fullFeature(Edges.ABOVE_3));
        DUE.sentence("15: BAD before FULL: limit too small", () -> fullLimit(Edges.BELOW_0));
        DUE.sentence("15: BAD before FULL: limit too large", () -> fullLimit(Edges.ABOVE_15));
        DUE.sentence("15: a clear with t too small changes nothing", () -> clearChangesNothing(Edges.BELOW_0));
        DUE.sentence("15: a clear with t too large changes nothing", () -> clearChangesNothing(Edges.ABOVE_3));
        DUE.sentence("What it is: the 512th call still answers", ChangeEdgesTest::lastCall);
    }

    private static void newTreesAreOneLeaf() {
        TreeScorer x = new TreeScorer();
        for (int t = 0; t < 4; t++) {
            DUE.is("leaves " + t, x.leaves(t), 1);
            DUE.is("reachable " + t, x.reachable(t), 1);
            DUE.is("leafOf the least point in " + t, x.leafOf(t, 0), 0);
            DUE.is("leafOf the greatest point in " + t, x.leafOf(t, 65535), 0);
        }
    }

    private static void newTreesHaveNoSecondLeaf() {
        TreeScorer x = new TreeScorer();
        for (int t = 0; t < 4; t++) {
            DUE.is("split leaf 1 of " + t, x.split(t, 1, 0, 7), BAD);
            DUE.is("setValue leaf 1 of " + t, x.setValue(t, 1, 5), false);
            DUE.is("range of leaf 1 of " + t, x.range(t, 1, 0, 0), BAD);
        }
    }

    private static void newTreesHaveNoForks() {
        TreeScorer x = new TreeScorer();
        DUE.is("depth of the least point", x.depth(0), 0);
        DUE.is("depth of the greatest point", x.depth(65535), 0);
        for (int f = 0; f < 4; f++) {
            DUE.is("asks " + f, x.asks(f), 0);
        }
    }

    private static void newLeavesHaveValue0() {
        TreeScorer x = new TreeScorer();
        for (int t = 0; t < 4; t++) {
            DUE.is("value " + t, x.value(t, 0), 0);
        }
        DUE.is("score of the least point", x.score(0), 0);
        DUE.is("score of the greatest point", x.score(65535), 0);
    }

    private static void splitAtEachLimit() {
        for (int f = 0; f < 4; f++) {
            for (int limit = 0; limit < 16; limit++) {
                TreeScorer x = new TreeScorer();
                x.split(1, 0, f, limit);
                int others = 65535 - 15 * Edges.step(f);
                for (int v = 0; v < 16; v++) {
                    int want = v <= limit ? 0 : 1;
                    String asked = "feature " + f + " = " + v + ", limit " + limit;
                    DUE.is(asked + ", others 0", x.leafOf(1, v * Edges.step(f)), want);
                    DUE.is(asked + ", others 15", x.leafOf(1, others + v * Edges.step(f)), want);
                }
            }
        }
    }

    private static void splitLimit0() {
        for (int f = 0; f < 4; f++) {
            TreeScorer x = new TreeScorer();
            DUE.is("split feature " + f + " at 0", x.split(f, 0, f, 0), 2);
            DUE.is("0 goes left", x.leafOf(f, 65535 - 15 * Edges.step(f)), 0);
            DUE.is("1 goes right", x.leafOf(f, Edges.step(f)), 1);
            DUE.is("the left part is for 0 alone", x.range(f, 0, f, 1), 0);
            DUE.is("the right part begins with 1", x.range(f, 1, f, 0), 1);
        }
    }

    private static void splitLimit15() {
        for (int f = 0; f < 4; f++) {
            TreeScorer x = new TreeScorer();
            DUE.is("split feature " + f + " at 15", x.split(f, 0, f, 15), 2);
            DUE.is("leaves", x.leaves(f), 2);
            DUE.is("15 goes left", x.leafOf(f, 65535), 0);
            DUE.is("none goes right", x.reachable(f), 1);
        }
    }

    private static void splitFirstAndLast() {
        for (int t = 0; t < 4; t += 3) {
            for (int f = 0; f < 4; f += 3) {
                TreeScorer x = new TreeScorer();
                DUE.is("split tree " + t + " by feature " + f, x.split(t, 0, f, 7), 2);
                DUE.is("leaves of " + t, x.leaves(t), 2);
                DUE.is("asks " + f, x.asks(f), 1);
            }
        }
    }

    private static void splitFirstLeaf() {
        for (int n = 1; n < 8; n++) {
            TreeScorer x = Edges.grown(2, n);
            DUE.is("split leaf 0 of " + n, x.split(2, 0, 3, 7), n + 1);
            DUE.is("left", x.value(2, 0), 100);
            DUE.is("right", x.value(2, 1), 0);
            for (int i = 1; i < n; i++) {
                DUE.is("leaf " + i + " of " + n + " has moved up", x.value(2, i + 1), 100 + i);
                DUE.is("its points have moved with it", x.leafOf(2, Edges.point(0, 0, 2 * i, 15)), i + 1);
            }
        }
    }

    private static void splitMovesValue0() {
        TreeScorer x = Edges.grown(2, 5);
        x.setValue(2, 1, 0);
        x.setValue(2, 3, 0);
        x.split(2, 0, 3, 7);
        int[] want = {100, 0, 0, 102, 0, 104};
        for (int i = 0; i < want.length; i++) {
            DUE.is("value of leaf " + i, x.value(2, i), want[i]);
        }
    }

    private static void splitLastLeaf() {
        for (int n = 1; n < 8; n++) {
            TreeScorer x = Edges.grown(2, n);
            DUE.is("split leaf " + (n - 1) + " of " + n, x.split(2, n - 1, 3, 7), n + 1);
            for (int i = 0; i < n; i++) {
                DUE.is("leaf " + i + " of " + n + " stays", x.value(2, i), 100 + i);
                DUE.is("its points stay", x.leafOf(2, Edges.point(0, 0, 2 * i, 0)), i);
            }
            DUE.is("right", x.value(2, n), 0);
            DUE.is("points of the right part", x.leafOf(2, 65535), n);
        }
    }

    private static void splitKeepsExtremeValue() {
        for (int v : new int[] {MIN, -1, 0, 1, MAX}) {
            TreeScorer x = new TreeScorer();
            x.setValue(3, 0, v);
            x.split(3, 0, 0, 7);
            DUE.is("left after " + v, x.value(3, 0), v);
            DUE.is("right after " + v, x.value(3, 1), 0);
        }
    }

    private static void splitRightIs0() {
        TreeScorer x = Edges.grown(0, 8);
        x.clear(0);
        for (int n = 1; n < 8; n++) {
            x.split(0, n - 1, 1, 2 * n);
            DUE.is("right after split " + n, x.value(0, n), 0);
        }
    }

    private static void splitLeafWithoutPoints() {
        TreeScorer x = new TreeScorer();
        x.split(1, 0, 2, 15);
        x.setValue(1, 1, 9);
        DUE.is("split", x.split(1, 1, 0, 3), 3);
        DUE.is("left", x.value(1, 1), 9);
        DUE.is("right", x.value(1, 2), 0);
        DUE.is("no point comes to either", x.reachable(1), 1);
    }

    private static void splitTree(int[] wrong) {
        TreeScorer x = Edges.mixed();
        for (int t : wrong) {
            DUE.is("split tree " + t, x.split(t, 0, 0, 0), BAD);
        }
    }

    private static void splitFeature(int[] wrong) {
        TreeScorer x = Edges.mixed();
        for (int f : wrong) {
            DUE.is("split by feature " + f, x.split(0, 0, f, 0), BAD);
        }
    }

    private static void splitLeafTooSmall() {
        TreeScorer x = Edges.mixed();
        for (int t = 0; t < 2; t++) {
            for (int i : Edges.BELOW_0) {
                DUE.is("split leaf " + i + " of tree " + t, x.split(t, i, 0, 0), BAD);
            }
        }
    }

    private static void splitLeafTooLarge() {
        for (int t = 0; t < 4; t++) {
            for (int n = 1; n < 8; n++) {
                TreeScorer x = Edges.grown(t, n);
                for (int i : new int[] {n, n + 1, 8, 16, 32, 1 << 29, (1 << 29) + 1, MAX}) {
                    DUE.is("split leaf " + i + " of " + n, x.split(t, i, 0, 0), BAD);
                }
                DUE.is("split the last of " + n, x.split(t, n - 1, 0, 0), n + 1);
            }
        }
    }

    private static void splitLimit(int[] wrong) {
        TreeScorer x = Edges.mixed();
        for (int limit : wrong) {
            DUE.is("split at " + limit, x.split(0, 0, 0, limit), BAD);
            DUE.is("split at " + limit, x.split(1, 2, 3, limit), BAD);
        }
    }

    private static void splitBadChangesNothing() {
        Edges.alikeAfter(DUE, "BAD splits", Edges.mixed(), Edges.mixed(), x -> {
            for (int wrong : new int[] {-1, 16, MIN, MAX}) {
                x.split(wrong, 0, 0, 0);
                for (int t = 0; t < 4; t++) {
                    x.split(t, wrong, 0, 0);
                    x.split(t, 0, wrong, 0);
                    x.split(t, 0, 0, wrong);
                }
            }
            x.split(4, 0, 0, 0);
            x.split(0, 1, 0, 0);
            x.split(1, 3, 0, 0);
            x.split(0, 0, 4, 0);
        });
    }

    private static void splitWithSixForks() {
        for (int t = 0; t < 4; t++) {
            for (int i = 0; i < 7; i++) {
                TreeScorer x = Edges.grown(t, 7);
                DUE.is("split leaf " + i + " of seven in tree " + t, x.split(t, i, 0, 7), 8);
            }
        }
    }

    private static void splitWithSevenForks() {
        for (int t = 0; t < 4; t++) {
            TreeScorer x = Edges.grown(t, 8);
            for (int i = 0; i < 8; i++) {
                DUE.is("split leaf " + i + " of eight in tree " + t, x.split(t, i, 0, 7), FULL);
                DUE.is("split leaf " + i + " of eight in tree " + t, x.split(t, i, 3, 15), FULL);
            }
        }
    }

    private static void splitFullInEachForm() {
        // Down the left, down the right, level by level, and with all forks but the first where no point comes.
        int[][] forms = {{0, 0, 0, 0, 0, 0, 0}, {0, 1, 2, 3, 4, 5, 6}, {0, 0, 2, 0, 2, 4, 6}, {0, 1, 1, 1, 1, 1, 1}};
        for (int[] form : forms) {
            TreeScorer x = new TreeScorer();
            for (int n = 0; n < 7; n++) {
                DUE.is("fork " + (n + 1), x.split(2, form[n], 1, 15), n + 2);
            }
            DUE.is("fork 8", x.split(2, 0, 1, 15), FULL);
            DUE.is("leaves", x.leaves(2), 8);
        }
    }

    private static void splitLeavesOthers() {
        for (int t = 0; t < 4; t++) {
            int filled = t;
            Edges.alikeAfter(DUE, "tree " + t + " filled last", Edges.allFullBut(t), Edges.allFull(), x ->
                Edges.grow(x, filled, 8, 100 * (filled + 1)));
        }
    }

    private static void splitOthersNotFull() {
        for (int full = 0; full < 4; full++) {
            TreeScorer x = Edges.grown(full, 8);
            for (int t = 0; t < 4; t++) {
                DUE.is("tree " + full + " is full, split " + t, x.split(t, 0, 0, 7), t == full ? FULL : 2);
            }
        }
    }

    private static void splitFullChangesNothing() {
        Edges.alikeAfter(DUE, "FULL splits", Edges.allFull(), Edges.allFull(), x -> {
            for (int t = 0; t < 4; t++) {
                for (int i = 0; i < 8; i++) {
                    DUE.is("split " + t + " " + i, x.split(t, i, i % 4, 2 * i), FULL);
                }
            }
        });
    }

    private static void setFirstAndLastLeaf() {
        for (int t = 0; t < 4; t++) {
            for (int n = 1; n <= 8; n++) {
                TreeScorer x = Edges.grown(t, n);
                DUE.is("set the last of " + n, x.setValue(t, n - 1, 6), true);
                DUE.is("the last of " + n, x.value(t, n - 1), 6);
                DUE.is("set the first of " + n, x.setValue(t, 0, 5), true);
                DUE.is("the first of " + n, x.value(t, 0), 5);
                for (int i = 1; i < n - 1; i++) {
                    DUE.is("leaf " + i + " between them", x.value(t, i), 100 + i);
                }
            }
        }
    }

    private static void setExtremeValues() {
        TreeScorer x = Edges.mixed();
        for (int v : new int[] {MIN, MIN + 1, -2, -1, 0, 1, 127, 128, 32767, 32768, 65535, 65536, MAX - 1, MAX}) {
            DUE.is("setValue " + v, x.setValue(3, 7, v), true);
            DUE.is("value", x.value(3, 7), v);
            DUE.is("setValue " + v, x.setValue(0, 0, v), true);
            DUE.is("value", x.value(0, 0), v);
        }
    }

    private static void setLeafWithoutPoints() {
        TreeScorer x = new TreeScorer();
        x.split(0, 0, 0, 15);
        DUE.is("setValue", x.setValue(0, 1, 8), true);
        DUE.is("value", x.value(0, 1), 8);
        DUE.is("no score has it", x.score(65535), 0);
    }

    private static void setTree(int[] wrong) {
        TreeScorer x = Edges.mixed();
        for (int t : wrong) {
            DUE.is("setValue in tree " + t, x.setValue(t, 0, 1), false);
        }
    }

    private static void setLeafTooSmall() {
        TreeScorer x = Edges.mixed();
        for (int t = 0; t < 4; t++) {
            for (int i : Edges.BELOW_0) {
                DUE.is("setValue of leaf " + i + " in tree " + t, x.setValue(t, i, 1), false);
            }
        }
    }

    private static void setLeafTooLarge() {
        for (int t = 0; t < 4; t++) {
            for (int n = 1; n <= 8; n++) {
                TreeScorer x = Edges.grown(t, n);
                for (int i : new int[] {n, n + 1, 8, 16, 32, 1 << 29, (1 << 29) + 1, MAX}) {
                    DUE.is("setValue of leaf " + i + " of " + n, x.setValue(t, i, 1), false);
                }
            }
        }
    }

    private static void setLeafGone() {
        TreeScorer x = Edges.grown(1, 8);
        x.clear(1);
        for (int i = 1; i < 8; i++) {
            DUE.is("setValue of old leaf " + i, x.setValue(1, i, 1), false);
        }
        DUE.is("setValue of the one leaf", x.setValue(1, 0, 1), true);
    }

    private static void setFalseChangesNothing() {
        Edges.alikeAfter(DUE, "false setValues", Edges.mixed(), Edges.mixed(), x -> {
            for (int wrong : new int[] {-1, 8, -8, MIN, MAX, 1 << 29}) {
                x.setValue(wrong, 0, 12345);
                for (int t = 0; t < 4; t++) {
                    x.setValue(t, wrong, 12345);
                }
            }
            x.setValue(4, 0, 12345);
            x.setValue(0, 1, 12345);
            x.setValue(1, 3, 12345);
        });
    }

    private static void clearOneLeaf() {
        for (int t = 0; t < 4; t++) {
            TreeScorer x = new TreeScorer();
            DUE.is("clear a new tree " + t, x.clear(t), true);
            DUE.is("leaves", x.leaves(t), 1);
            x.setValue(t, 0, MIN);
            DUE.is("clear the one leaf of " + t, x.clear(t), true);
            DUE.is("leaves", x.leaves(t), 1);
            DUE.is("value", x.value(t, 0), 0);
            DUE.is("clear it again", x.clear(t), true);
        }
    }

    private static void clearFullTree() {
        for (int t = 0; t < 4; t++) {
            TreeScorer x = Edges.grown(t, 8);
            DUE.is("clear a full tree " + t, x.clear(t), true);
            DUE.is("leaves", x.leaves(t), 1);
            for (int i = 0; i < 8; i++) {
                DUE.is("value of leaf " + i, x.value(t, i), 0);
            }
            DUE.is("depth", x.depth(65535), 0);
            DUE.is("asks", x.asks(t), 0);
            DUE.is("leafOf the greatest point", x.leafOf(t, 65535), 0);
        }
    }

    private static void clearGivesRoom() {
        for (int t = 0; t < 4; t++) {
            TreeScorer x = Edges.grown(t, 8);
            DUE.is("full", x.split(t, 0, 0, 0), FULL);
            x.clear(t);
            for (int n = 1; n <= 7; n++) {
                DUE.is("fork " + n + " after the clear", x.split(t, 0, 0, n), n + 1);
            }
            DUE.is("full again", x.split(t, 0, 0, 0), FULL);
        }
    }

    private static void clearIsLikeNew() {
        Edges.alikeAfter(DUE, "clears of all", Edges.mixed(), new TreeScorer(), x -> {
            for (int t = 0; t < 4; t++) {
                x.clear(t);
            }
        });
    }

    private static void clearOneAlone() {
        for (int t = 0; t < 4; t++) {
            int cleared = t;
            Edges.alikeAfter(DUE, "clear " + t, Edges.allFull(), Edges.allFullBut(t), x ->
                DUE.is("clear " + cleared, x.clear(cleared), true));
        }
    }

    private static void clearTree(int[] wrong) {
        TreeScorer x = Edges.mixed();
        for (int t : wrong) {
            DUE.is("clear " + t, x.clear(t), false);
        }
    }

    private static void fullTree(int[] wrong) {
        TreeScorer x = Edges.allFull();
        for (int t : wrong) {
            DUE.is("split tree " + t + ", all being full", x.split(t, 0, 0, 0), BAD);
        }
    }

    private static void fullLeaf(int[] wrong) {
        TreeScorer x = Edges.allFull();
        for (int t = 0; t < 4; t++) {
            for (int i : wrong) {
                DUE.is("split leaf " + i + " of full tree " + t, x.split(t, i, 0, 0), BAD);
            }
        }
    }

    private static void fullFeature(int[] wrong) {
        TreeScorer x = Edges.allFull();
        for (int t = 0; t < 4; t++) {
            for (int f : wrong) {
                DUE.is("split full tree " + t + " by feature " + f, x.split(t, 7, f, 0), BAD);
            }
        }
    }

    private static void fullLimit(int[] wrong) {
        TreeScorer x = Edges.allFull();
        for (int t = 0; t < 4; t++) {
            for (int limit : wrong) {
                DUE.is("split full tree " + t + " at " + limit, x.split(t, 7, 3, limit), BAD);
            }
        }
    }

    private static void clearChangesNothing(int[] wrong) {
        Edges.alikeAfter(DUE, "false clears", Edges.mixed(), Edges.mixed(), x -> {
            for (int t : wrong) {
                DUE.is("clear " + t, x.clear(t), false);
            }
        });
    }

    private static void lastCall() {
        TreeScorer x = new TreeScorer();
        int calls = 0;
        for (; calls < 504; calls += 9) {
            for (int n = 0; n < 7; n++) {
                DUE.is("call " + (calls + n + 1), x.split(0, n, 0, 2 * n), n + 2);
            }
            DUE.is("call " + (calls + 8), x.split(0, 7, 0, 14), FULL);
            DUE.is("call " + (calls + 9), x.clear(0), true);
        }
        for (; calls < 511; calls++) {
            DUE.is("call " + (calls + 1), x.split(0, 0, 0, 7), calls - 504 + 2);
        }
        DUE.is("call 512", x.depth(0), 7);
    }
}
