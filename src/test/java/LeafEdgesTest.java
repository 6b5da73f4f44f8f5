/** Each boundary that promises 5 to 9 name, with a test of its own: leaves, value, leafOf, score and depth. */
public final class LeafEdgesTest {
    private static final int BAD = Edges.BAD;
    private static final int MIN = Edges.MIN;
    private static final int MAX = Edges.MAX;
    private static final Due DUE = new Due();

    public static void main(String[] args) {
        leaves();
        value();
        leafOf();
        score();
        depth();
        DUE.end();
    }

    private static void leaves() {
        DUE.sentence("5: from one leaf to eight, and no more", LeafEdgesTest::leavesOneToEight);
        DUE.sentence("5: leaves without points count", LeafEdgesTest::leavesWithoutPoints);
        DUE.sentence("5: BAD when t is too small", () -> leavesOf(Edges.BELOW_0));
        DUE.sentence("5: BAD when t is too large", () -> leavesOf(Edges.ABOVE_3));
    }

    private static void value() {
        DUE.sentence("6: the first and the last leaf", LeafEdgesTest::valueFirstAndLast);
        DUE.sentence("6: 0 when there is none: t too small", () -> valueTree(Edges.BELOW_0));
        DUE.sentence("6: 0 when there is none: t too large", () -> valueTree(Edges.ABOVE_3));
        DUE.sentence("6: 0 when there is none: i too small", LeafEdgesTest::valueLeafTooSmall);
        DUE.sentence("6: 0 when there is none: i too large", LeafEdgesTest::valueLeafTooLarge);
        DUE.sentence("6: 0 when there is none: gone with a clear", LeafEdgesTest::valueLeafGone);
    }

    private static void leafOf() {
        DUE.sentence("7: the least and the greatest point", LeafEdgesTest::leafOfLeastAndGreatest);
        DUE.sentence("7: the first and the last tree", LeafEdgesTest::leafOfFirstAndLastTree);
        DUE.sentence("7: a tree without forks: leaf 0", LeafEdgesTest::leafOfOneLeaf);
        DUE.sentence("7: each of eight leaves, at both its ends", LeafEdgesTest::leafOfEachOfEight);
        DUE.sentence("7: a leaf with one point", LeafEdgesTest::leafOfOnePoint);
        DUE.sentence("7: BAD when t is too small", () -> leafOfTree(Edges.BELOW_0));
        DUE.sentence("7: BAD when t is too large", () -> leafOfTree(Edges.ABOVE_3));
        DUE.sentence("7: BAD when the point is too small", () -> leafOfPoint(Edges.BELOW_0));
        DUE.sentence("7: BAD when the point is too large", () -> leafOfPoint(Edges.ABOVE_65535));
    }

    private static void score() {
        DUE.sentence("8: the least and the greatest point", LeafEdgesTest::scoreLeastAndGreatest);
        DUE.sentence("8: the first and the last tree count", LeafEdgesTest::scoreEachTree);
        DUE.sentence("8: the sum wraps above the greatest int", LeafEdgesTest::scoreWrapsAbove);
        DUE.sentence("8: the sum wraps below the least int", LeafEdgesTest::scoreWrapsBelow);
        DUE.sentence("8: the sum wraps and comes back", LeafEdgesTest::scoreWrapsAndComesBack);
        DUE.sentence("8: the greatest and the least int are scores", LeafEdgesTest::scoreJustInside);
        DUE.sentence("8: 0 when the point is too small", () -> scoreOf(Edges.BELOW_0));
        DUE.sentence("8: 0 when the point is too large", () -> scoreOf(Edges.ABOVE_65535));
    }

    private static void depth() {
        DUE.sentence("9: 0 without forks", LeafEdgesTest::depthWithoutForks);
        DUE.sentence("9: all 28 forks", LeafEdgesTest::depthAllForks);
        DUE.sentence("9: the least and the greatest point", LeafEdgesTest::depthLeastAndGreatest);
        DUE.sentence("9: a fork that parts no points counts", LeafEdgesTest::depthForkThatPartsNothing);
        DUE.sentence("9: a fork where no point comes does not count", LeafEdgesTest::depthForkWithoutPoints);
        DUE.sentence("9: BAD when the point is too small", () -> depthOf(Edges.BELOW_0));
        DUE.sentence("9: BAD when the point is too large", () -> depthOf(Edges.ABOVE_65535));
    }

    private static void leavesOneToEight() {
        for (int t = 0; t < 4; t++) {
            TreeScorer x = new TreeScorer();
            for (int n = 1; n <= 8; n++) {
                DUE.is("leaves of " + t, x.leaves(t), n);
                x.split(t, n - 1, 3, 2 * n - 1);
            }
            DUE.is("leaves of " + t + " after the refused split", x.leaves(t), 8);
        }
    }

    private static void leavesWithoutPoints() {
        TreeScorer x = new TreeScorer();
        for (int n = 1; n <= 7; n++) {
            x.split(0, 0, 0, 15);
            DUE.is("leaves", x.leaves(0), n + 1);
        }
    }

    private static void leavesOf(int[] wrong) {
        TreeScorer x = Edges.mixed();
        for (int t : wrong) {
            DUE.is("leaves of " + t, x.leaves(t), BAD);
        }
    }

    private static void valueFirstAndLast() {
        for (int t = 0; t < 4; t++) {
            for (int n = 1; n <= 8; n++) {
                TreeScorer x = Edges.grown(t, n);
                DUE.is("the first of " + n, x.value(t, 0), 100);
                DUE.is("the last of " + n, x.value(t, n - 1), 100 + n - 1);
            }
        }
    }

    private static void valueTree(int[] wrong) {
        TreeScorer x = Edges.allFull();
        for (int t : wrong) {
            DUE.is("value in tree " + t, x.value(t, 0), 0);
            DUE.is("value in tree " + t, x.value(t, 7), 0);
        }
    }

    private static void valueLeafTooSmall() {
        TreeScorer x = Edges.allFull();
        for (int t = 0; t < 4; t++) {
            for (int i : Edges.BELOW_0) {
                DUE.is("value of leaf " + i + " in tree " + t, x.value(t, i), 0);
            }
        }
    }

    private static void valueLeafTooLarge() {
        TreeScorer full = Edges.allFull();
        for (int t = 0; t < 4; t++) {
            for (int i : new int[] {8, 9, 15, 16, 31, 32, 1 << 29, MAX}) {
                DUE.is("value of leaf " + i + " of eight in tree " + t, full.value(t, i), 0);
            }
            for (int n = 1; n < 8; n++) {
                TreeScorer x = Edges.grown(t, n);
                DUE.is("value of leaf " + n + " of " + n, x.value(t, n), 0);
            }
        }
    }

    private static void valueLeafGone() {
        TreeScorer x = Edges.allFull();
        for (int t = 0; t < 4; t++) {
            x.clear(t);
            for (int i = 1; i < 8; i++) {
                DUE.is("value of old leaf " + i + " in tree " + t, x.value(t, i), 0);
            }
        }
    }

    private static void leafOfLeastAndGreatest() {
        for (int f = 0; f < 4; f++) {
            TreeScorer x = new TreeScorer();
            x.split(2, 0, f, 0);
            x.split(2, 1, f, 14);
            DUE.is("the least point, feature " + f, x.leafOf(2, 0), 0);
            DUE.is("the greatest point, feature " + f, x.leafOf(2, 65535), 2);
        }
    }

    private static void leafOfFirstAndLastTree() {
        TreeScorer x = new TreeScorer();
        x.split(0, 0, 0, 7);
        x.split(3, 0, 3, 7);
        x.split(3, 1, 3, 11);
        DUE.is("tree 0", x.leafOf(0, 65535), 1);
        DUE.is("tree 3", x.leafOf(3, 65535), 2);
    }

    private static void leafOfOneLeaf() {
        TreeScorer x = new TreeScorer();
        for (int t = 0; t < 4; t++) {
            for (int point : new int[] {0, 1, 4660, 65534, 65535}) {
                DUE.is("leafOf " + t + " " + point, x.leafOf(t, point), 0);
            }
        }
    }

    private static void leafOfEachOfEight() {
        for (int t = 0; t < 4; t++) {
            TreeScorer x = Edges.grown(t, 8);
            for (int v = 0; v < 16; v++) {
                // Leaf 0 is for 0 alone, leaf i for 2i - 1 and 2i, and the last one for 15 as well.
                int want = v == 15 ? 7 : (v + 1) / 2;
                DUE.is("feature " + t + " = " + v, x.leafOf(t, v * Edges.step(t)), want);
            }
        }
    }

    private static void leafOfOnePoint() {
        TreeScorer x = Edges.onePoint();
        DUE.is("the point", x.leafOf(1, 0x0777), 3);
        for (int f = 0; f < 3; f++) {
            DUE.is("one less in feature " + f, x.leafOf(1, 0x0777 - Edges.step(f)), f);
            DUE.is("one more in feature " + f, x.leafOf(1, 0x0777 + Edges.step(f)), 7 - f);
        }
        DUE.is("one more in feature 3", x.leafOf(1, 0x1777), 4);
    }

    private static void leafOfTree(int[] wrong) {
        TreeScorer x = Edges.mixed();
        for (int t : wrong) {
            DUE.is("leafOf " + t + " 0", x.leafOf(t, 0), BAD);
            DUE.is("leafOf " + t + " 65535", x.leafOf(t, 65535), BAD);
        }
    }

    private static void leafOfPoint(int[] wrong) {
        TreeScorer x = Edges.mixed();
        for (int point : wrong) {
            for (int t = 0; t < 4; t++) {
                DUE.is("leafOf " + t + " " + point, x.leafOf(t, point), BAD);
            }
        }
    }

    private static TreeScorer withValues(int a, int b, int c, int d) {
        TreeScorer x = new TreeScorer();
        x.setValue(0, 0, a);
        x.setValue(1, 0, b);
        x.setValue(2, 0, c);
        x.setValue(3, 0, d);
        return x;
    }

    private static void scoreLeastAndGreatest() {
        TreeScorer x = Edges.endsApart();
        for (int t = 0; t < 4; t++) {
            x.setValue(t, 0, 1);
            x.setValue(t, 2, 10);
        }
        DUE.is("the least point", x.score(0), 4);
        DUE.is("the greatest point", x.score(65535), 40);
        for (int f = 0; f < 4; f++) {
            DUE.is("one more than the least in feature " + f, x.score(Edges.step(f)), 3);
            DUE.is("one less than the greatest in feature " + f, x.score(65535 - Edges.step(f)), 30);
        }
    }

    private static void scoreEachTree() {
        DUE.is("tree 0 alone", withValues(7, 0, 0, 0).score(0), 7);
        DUE.is("tree 1 alone", withValues(0, 7, 0, 0).score(0), 7);
        DUE.is("tree 2 alone", withValues(0, 0, 7, 0).score(0), 7);
        DUE.is("tree 3 alone", withValues(0, 0, 0, 7).score(0), 7);
    }

    private static void scoreWrapsAbove() {
        DUE.is("greatest int + 1", withValues(MAX, 0, 0, 1).score(65535), MIN);
        DUE.is("greatest int twice", withValues(0, MAX, MAX, 0).score(0), -2);
        DUE.is("greatest int four times", withValues(MAX, MAX, MAX, MAX).score(0), -4);
    }

    private static void scoreWrapsBelow() {
        DUE.is("least int - 1", withValues(MIN, 0, 0, -1).score(65535), MAX);
        DUE.is("least int twice", withValues(0, MIN, MIN, 0).score(0), 0);
        DUE.is("least int thrice", withValues(MIN, MIN, MIN, 0).score(0), MIN);
        DUE.is("least int four times and 5 more", withValues(MIN, MIN, MIN, MIN + 5).score(0), 5);
    }

    private static void scoreWrapsAndComesBack() {
        DUE.is("above and back", withValues(MAX, 5, -5, -1).score(0), MAX - 1);
        DUE.is("below and back", withValues(MIN, -5, 5, 1).score(0), MIN + 1);
    }

    private static void scoreJustInside() {
        DUE.is("the greatest int", withValues(MAX - 3, 1, 1, 1).score(0), MAX);
        DUE.is("the least int", withValues(MIN + 3, -1, -1, -1).score(0), MIN);
        DUE.is("-1", withValues(MIN, MAX, 0, 0).score(0), -1);
    }

    private static void scoreOf(int[] wrong) {
        TreeScorer x = Edges.mixed();
        for (int point : wrong) {
            DUE.is("score " + point, x.score(point), 0);
        }
    }

    private static void depthWithoutForks() {
        TreeScorer x = new TreeScorer();
        for (int point : new int[] {0, 1, 4660, 65535}) {
            DUE.is("depth " + point, x.depth(point), 0);
        }
    }

    private static void depthAllForks() {
        TreeScorer x = new TreeScorer();
        for (int n = 1; n <= 7; n++) {
            for (int t = 0; t < 4; t++) {
                x.split(t, 0, t, 15 - n);
                DUE.is("after " + (4 * (n - 1) + t + 1) + " forks", x.depth(0), 4 * (n - 1) + t + 1);
            }
        }
        DUE.is("all forks", x.depth(0), 28);
        x.split(0, 0, 0, 0);
        DUE.is("all forks and a refused one", x.depth(0), 28);
    }

    private static void depthLeastAndGreatest() {
        TreeScorer x = new TreeScorer();
        for (int f = 0; f < 4; f++) {
            // Feature f comes past three forks when it is 0 or 15, and past two when it is between.
            x.split(f, 0, f, 0);
            x.split(f, 0, f, 0);
            x.split(f, 0, f, 0);
            x.split(f, 3, f, 14);
            x.split(f, 4, f, 14);
        }
        DUE.is("the least point", x.depth(0), 12);
        DUE.is("the greatest point", x.depth(65535), 12);
        for (int f = 0; f < 4; f++) {
            DUE.is("one more than the least in feature " + f, x.depth(Edges.step(f)), 11);
            DUE.is("one less than the greatest in feature " + f, x.depth(65535 - Edges.step(f)), 11);
        }
    }

    private static void depthForkThatPartsNothing() {
        TreeScorer x = new TreeScorer();
        x.split(0, 0, 0, 15);
        DUE.is("nothing is above 15", x.depth(65535), 1);
        x.split(0, 0, 0, 15);
        DUE.is("the same fork again", x.depth(65535), 2);
        x.split(1, 0, 3, 4);
        x.split(1, 1, 3, 2);
        DUE.is("all are above 2 there", x.depth(65535), 4);
    }

    private static void depthForkWithoutPoints() {
        TreeScorer x = new TreeScorer();
        x.split(3, 0, 0, 15);
        x.split(3, 1, 1, 7);
        x.split(3, 2, 2, 7);
        DUE.is("the least point", x.depth(0), 1);
        DUE.is("the greatest point", x.depth(65535), 1);
    }

    private static void depthOf(int[] wrong) {
        TreeScorer x = Edges.mixed();
        for (int point : wrong) {
            DUE.is("depth " + point, x.depth(point), BAD);
        }
    }
}
