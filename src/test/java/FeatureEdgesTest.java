/** Each boundary that promises 10 to 14 name, with a test of its own: leavesAlong, bestValue, reachable, range and asks. */
public final class FeatureEdgesTest {
    private static final int BAD = Edges.BAD;
    private static final int FULL = Edges.FULL;
    private static final int MIN = Edges.MIN;
    private static final int MAX = Edges.MAX;
    private static final Due DUE = new Due();

    public static void main(String[] args) {
        leavesAlong();
        bestValue();
        reachable();
        range();
        asks();
        DUE.end();
    }

    private static void leavesAlong() {
        DUE.sentence("10: a tree without forks: leaf 0 alone", FeatureEdgesTest::alongOneLeaf);
        DUE.sentence("10: all eight leaves", FeatureEdgesTest::alongAllEight);
        DUE.sentence("10: the least value of f, 0, is tried", FeatureEdgesTest::alongLeastValue);
        DUE.sentence("10: the greatest value of f, 15, is tried", FeatureEdgesTest::alongGreatestValue);
        DUE.sentence("10: the other features stay as they are", FeatureEdgesTest::alongOthersStay);
        DUE.sentence("10: the least and the greatest point", FeatureEdgesTest::alongLeastAndGreatest);
        DUE.sentence("10: a leaf without points is not along", FeatureEdgesTest::alongWithoutPoints);
        DUE.sentence("10: 0 when t is too small", () -> alongTree(Edges.BELOW_0));
        DUE.sentence("10: 0 when t is too large", () -> alongTree(Edges.ABOVE_3));
        DUE.sentence("10: 0 when f is too small", () -> alongFeature(Edges.BELOW_0));
        DUE.sentence("10: 0 when f is too large", () -> alongFeature(Edges.ABOVE_3));
        DUE.sentence("10: 0 when the point is too small", () -> alongPoint(Edges.BELOW_0));
        DUE.sentence("10: 0 when the point is too large", () -> alongPoint(Edges.ABOVE_65535));
    }

    private static void bestValue() {
        DUE.sentence("11: all values alike: 0", FeatureEdgesTest::bestOfAllAlike);
        DUE.sentence("11: 0 alone is best", FeatureEdgesTest::bestIs0);
        DUE.sentence("11: 15 alone is best", FeatureEdgesTest::bestIs15);
        DUE.sentence("11: the least of several best", FeatureEdgesTest::bestIsTheLeast);
        DUE.sentence("11: the least of several best, with worse ones between", FeatureEdgesTest::bestIsTheLeastApart);
        DUE.sentence("11: the scores are compared after the wrap above", FeatureEdgesTest::bestAfterWrapAbove);
        DUE.sentence("11: the scores are compared after the wrap below", FeatureEdgesTest::bestAfterWrapBelow);
        DUE.sentence("11: the least and the greatest int are compared as they are", FeatureEdgesTest::bestOfExtremes);
        DUE.sentence("11: the other features stay as they are", FeatureEdgesTest::bestOthersStay);
        DUE.sentence("11: the least and the greatest point", FeatureEdgesTest::bestLeastAndGreatest);
        DUE.sentence("11: BAD when f is too small", () -> bestFeature(Edges.BELOW_0));
        DUE.sentence("11: BAD when f is too large", () -> bestFeature(Edges.ABOVE_3));
        DUE.sentence("11: BAD when the point is too small", () -> bestPoint(Edges.BELOW_0));
        DUE.sentence("11: BAD when the point is too large", () -> bestPoint(Edges.ABOVE_65535));
    }

    private static void reachable() {
        DUE.sentence("12: a tree without forks: leaf 0", FeatureEdgesTest::reachableOneLeaf);
        DUE.sentence("12: all eight leaves", FeatureEdgesTest::reachableAllEight);
        DUE.sentence("12: one or two leaves of eight", FeatureEdgesTest::reachableFewOfEight);
        DUE.sentence("12: nothing is above limit 15", FeatureEdgesTest::reachableNothingAbove15);
        DUE.sentence("12: forks that contradict each other", FeatureEdgesTest::reachableContradiction);
        DUE.sentence("12: nothing below a part without points", FeatureEdgesTest::reachableBelowNothing);
        DUE.sentence("12: one point is enough", FeatureEdgesTest::reachableOnePoint);
        DUE.sentence("12: 0 when t is too small", () -> reachableTree(Edges.BELOW_0));
        DUE.sentence("12: 0 when t is too large", () -> reachableTree(Edges.ABOVE_3));
    }

    private static void range() {
        DUE.sentence("13: a tree without forks: 0 and 15", FeatureEdgesTest::rangeOneLeaf);
        DUE.sentence("13: the limit is the left part's greatest, one more the right part's least",
            FeatureEdgesTest::rangeAtEachLimit);
        DUE.sentence("13: least and greatest are one number", FeatureEdgesTest::rangeOnePoint);
        DUE.sentence("13: a limit outside of what comes there cuts nothing off", FeatureEdgesTest::rangeLimitOutside);
        DUE.sentence("13: BAD when there is no such point: above 15", FeatureEdgesTest::rangeNothingAbove15);
        DUE.sentence("13: BAD when there is no such point: contradiction", FeatureEdgesTest::rangeContradiction);
        DUE.sentence("13: BAD when there is no such point: below such a part", FeatureEdgesTest::rangeBelowNothing);
        DUE.sentence("13: BAD when there is no such leaf: t too small", () -> rangeTree(Edges.BELOW_0));
        DUE.sentence("13: BAD when there is no such leaf: t too large", () -> rangeTree(Edges.ABOVE_3));
        DUE.sentence("13: BAD when there is no such leaf: i too small", FeatureEdgesTest::rangeLeafTooSmall);
        DUE.sentence("13: BAD when there is no such leaf: i too large", FeatureEdgesTest::rangeLeafTooLarge);
        DUE.sentence("13: BAD when there is no such leaf: gone with a clear", FeatureEdgesTest::rangeLeafGone);
        DUE.sentence("13: BAD when there is no such feature: too small", () -> rangeFeature(Edges.BELOW_0));
        DUE.sentence("13: BAD when there is no such feature: too large", () -> rangeFeature(Edges.ABOVE_3));
        DUE.sentence("13: BAD when what is too small", () -> rangeWhat(Edges.BELOW_0));
        DUE.sentence("13: BAD when what is too large", () -> rangeWhat(Edges.ABOVE_1));
    }

    private static void asks() {
        DUE.sentence("14: 0 when no fork asks", FeatureEdgesTest::asksNone);
        DUE.sentence("14: all 28 forks", FeatureEdgesTest::asksAll);
        DUE.sentence("14: the first and the last tree and feature", FeatureEdgesTest::asksFirstAndLast);
        DUE.sentence("14: forks where no point comes count", FeatureEdgesTest::asksWithoutPoints);
        DUE.sentence("14: a refused split does not count", FeatureEdgesTest::asksAfterRefused);
        DUE.sentence("14: forks gone with a clear do not count", FeatureEdgesTest::asksAfterClear);
        DUE.sentence("14: BAD when f is too small", () -> asksOf(Edges.BELOW_0));
        DUE.sentence("14: BAD when f is too large", () -> asksOf(Edges.ABOVE_3));
    }

    /** Leaf 1 of tree 0 has no point: it asks for more than 9 where all are at most 5. */
    private static TreeScorer contradiction(int f) {
        TreeScorer x = new TreeScorer();
        x.split(0, 0, f, 5);
        x.split(0, 0, f, 9);
        return x;
    }

    private static void alongOneLeaf() {
        TreeScorer x = new TreeScorer();
        for (int t = 0; t < 4; t++) {
            for (int f = 0; f < 4; f++) {
                DUE.is("along " + f + " in tree " + t, x.leavesAlong(t, 65535, f), 1);
            }
        }
    }

    private static void alongAllEight() {
        for (int t = 0; t < 4; t++) {
            TreeScorer x = Edges.grown(t, 8);
            for (int point : new int[] {0, 4660, 65535}) {
                DUE.is("along " + t + " from " + point, x.leavesAlong(t, point, t), 255);
            }
        }
    }

    private static void alongLeastValue() {
        for (int f = 0; f < 4; f++) {
            TreeScorer x = new TreeScorer();
            x.split(2, 0, f, 0);
            DUE.is("along " + f + " from 15", x.leavesAlong(2, 65535, f), 3);
            DUE.is("along " + f + " from 0", x.leavesAlong(2, 0, f), 3);
        }
    }

    private static void alongGreatestValue() {
        for (int f = 0; f < 4; f++) {
            TreeScorer x = new TreeScorer();
            x.split(2, 0, f, 14);
            DUE.is("along " + f + " from 0", x.leavesAlong(2, 0, f), 3);
            DUE.is("along " + f + " from 15", x.leavesAlong(2, 65535, f), 3);
        }
    }

    private static void alongOthersStay() {
        for (int f = 0; f < 4; f++) {
            int other = (f + 1) % 4;
            TreeScorer x = new TreeScorer();
            x.split(2, 0, f, 7);
            x.split(2, 0, other, 3);
            x.split(2, 2, other, 3);
            int left = 3 * Edges.step(other);
            int right = 4 * Edges.step(other);
            DUE.is("along " + f + ", other at the limit", x.leavesAlong(2, left, f), 0b0101);
            DUE.is("along " + f + ", other above the limit", x.leavesAlong(2, right, f), 0b1010);
        }
    }

    private static void alongLeastAndGreatest() {
        TreeScorer x = Edges.endsApart();
        for (int t = 0; t < 4; t++) {
            for (int f = 0; f < 4; f++) {
                String name = "tree " + t + " along " + f;
                DUE.is(name + " from the least point", x.leavesAlong(t, 0, f), t == f ? 0b111 : 0b001);
                DUE.is(name + " from the greatest point", x.leavesAlong(t, 65535, f), t == f ? 0b111 : 0b100);
            }
        }
    }

    private static void alongWithoutPoints() {
        for (int f = 0; f < 4; f++) {
            TreeScorer above = new TreeScorer();
            above.split(3, 0, f, 15);
            DUE.is("nothing is above 15, along " + f, above.leavesAlong(3, 65535, f), 1);
            DUE.is("contradiction, along " + f, contradiction(f).leavesAlong(0, 0, f), 0b101);
        }
    }

    private static void alongTree(int[] wrong) {
        TreeScorer x = Edges.mixed();
        for (int t : wrong) {
            DUE.is("along 0 in tree " + t, x.leavesAlong(t, 0, 0), 0);
            DUE.is("along 3 in tree " + t, x.leavesAlong(t, 65535, 3), 0);
        }
    }

    private static void alongFeature(int[] wrong) {
        TreeScorer x = Edges.mixed();
        for (int f : wrong) {
            for (int t = 0; t < 4; t++) {
                DUE.is("along " + f + " in tree " + t, x.leavesAlong(t, 4660, f), 0);
            }
        }
    }

    private static void alongPoint(int[] wrong) {
        TreeScorer x = Edges.mixed();
        for (int point : wrong) {
            for (int t = 0; t < 4; t++) {
                DUE.is("along " + t + " from " + point, x.leavesAlong(t, point, t), 0);
            }
        }
    }

    /** Feature f scores low up to the limit, and high above it. */
    private static TreeScorer step(int f, int limit, int low, int high) {
        TreeScorer x = new TreeScorer();
        x.split(0, 0, f, limit);
        x.setValue(0, 0, low);
        x.setValue(0, 1, high);
        return x;
    }

    private static void bestOfAllAlike() {
        for (int f = 0; f < 4; f++) {
            DUE.is("no forks, feature " + f, new TreeScorer().bestValue(65535, f), 0);
            DUE.is("forks with one value, feature " + f, step(f, 7, 4, 4).bestValue(65535, f), 0);
            DUE.is("forks with the least int, feature " + f, step(f, 7, MIN, MIN).bestValue(65535, f), 0);
            DUE.is("forks with the greatest int, feature " + f, step(f, 7, MAX, MAX).bestValue(65535, f), 0);
            DUE.is("the greater value is at no point", step(f, 15, 0, 9).bestValue(65535, f), 0);
        }
    }

    private static void bestIs0() {
        for (int f = 0; f < 4; f++) {
            DUE.is("feature " + f + " from 15", step(f, 0, 1, 0).bestValue(65535, f), 0);
            DUE.is("feature " + f + " from 0", step(f, 0, 0, -1).bestValue(0, f), 0);
        }
    }

    private static void bestIs15() {
        for (int f = 0; f < 4; f++) {
            DUE.is("feature " + f + " from 0", step(f, 14, 0, 1).bestValue(0, f), 15);
            DUE.is("feature " + f + " from 15", step(f, 14, -1, 0).bestValue(65535, f), 15);
        }
    }

    private static void bestIsTheLeast() {
        for (int f = 0; f < 4; f++) {
            for (int limit = 0; limit < 15; limit++) {
                TreeScorer x = step(f, limit, -3, -2);
                DUE.is("all above " + limit + " are best, from 15", x.bestValue(65535, f), limit + 1);
                DUE.is("all above " + limit + " are best, from 0", x.bestValue(0, f), limit + 1);
            }
        }
    }

    private static void bestIsTheLeastApart() {
        TreeScorer x = new TreeScorer();
        x.split(3, 0, 2, 3);
        x.split(3, 1, 2, 6);
        x.split(3, 2, 2, 10);
        x.setValue(3, 1, 8);
        x.setValue(3, 2, 7);
        x.setValue(3, 3, 8);
        DUE.is("4 .. 6 and 11 .. 15 are best", x.bestValue(65535, 2), 4);
        x.setValue(3, 3, 9);
        DUE.is("11 .. 15 are best", x.bestValue(0, 2), 11);
    }

    private static void bestAfterWrapAbove() {
        for (int f = 0; f < 4; f++) {
            TreeScorer x = step(f, 7, MAX - 1, MAX);
            DUE.is("no wrap yet, feature " + f, x.bestValue(0, f), 8);
            x.setValue(3, 0, 1);
            DUE.is("the greater one wraps, feature " + f, x.bestValue(65535, f), 0);
            x.setValue(3, 0, 2);
            DUE.is("both wrap, feature " + f, x.bestValue(0, f), 8);
        }
    }

    private static void bestAfterWrapBelow() {
        for (int f = 0; f < 4; f++) {
            TreeScorer x = step(f, 7, MIN + 1, MIN);
            DUE.is("no wrap yet, feature " + f, x.bestValue(65535, f), 0);
            x.setValue(3, 0, -1);
            DUE.is("the smaller one wraps, feature " + f, x.bestValue(0, f), 8);
            x.setValue(3, 0, -2);
            DUE.is("both wrap, feature " + f, x.bestValue(65535, f), 0);
        }
    }

    private static void bestOfExtremes() {
        DUE.is("least, then greatest int", step(1, 7, MIN, MAX).bestValue(0, 1), 8);
        DUE.is("greatest, then least int", step(1, 7, MAX, MIN).bestValue(65535, 1), 0);
        DUE.is("least int, then one more", step(1, 7, MIN, MIN + 1).bestValue(0, 1), 8);
        DUE.is("one less, then greatest int", step(1, 7, MAX - 1, MAX).bestValue(0, 1), 8);
        DUE.is("least int, then 0", step(1, 7, MIN, 0).bestValue(0, 1), 8);
        DUE.is("-1, then greatest int", step(1, 7, -1, MAX).bestValue(0, 1), 8);
    }

    private static void bestOthersStay() {
        for (int f = 0; f < 4; f++) {
            int other = (f + 3) % 4;
            TreeScorer x = step(other, 7, 0, 0);
            x.split(0, 0, f, 4);
            x.split(0, 2, f, 10);
            x.setValue(0, 1, 1);
            x.setValue(0, 3, 1);
            DUE.is("feature " + f + ", other at the limit", x.bestValue(7 * Edges.step(other), f), 5);
            DUE.is("feature " + f + ", other above the limit", x.bestValue(8 * Edges.step(other), f), 11);
        }
    }

    private static void bestLeastAndGreatest() {
        for (int f = 0; f < 4; f++) {
            for (int other = 0; other < 4; other++) {
                if (other != f) {
                    bestAtTheEndsOf(f, other);
                }
            }
        }
    }

    /** Feature f is best at 5 when the other one is 0, at 9 when it is 15, and at 12 when it is between. */
    private static void bestAtTheEndsOf(int f, int other) {
        TreeScorer x = new TreeScorer();
        x.split(1, 0, other, 0);
        x.split(1, 1, other, 14);
        x.split(1, 2, f, 8);
        x.split(1, 1, f, 11);
        x.split(1, 0, f, 4);
        for (int i = 1; i < 6; i += 2) {
            x.setValue(1, i, 1);
        }
        String name = "feature " + f + ", other " + other;
        DUE.is(name + " from the least point", x.bestValue(0, f), 5);
        DUE.is(name + " from one more", x.bestValue(Edges.step(other), f), 12);
        DUE.is(name + " from the greatest point", x.bestValue(65535, f), 9);
        DUE.is(name + " from one less", x.bestValue(65535 - Edges.step(other), f), 12);
    }

    private static void bestFeature(int[] wrong) {
        TreeScorer x = Edges.mixed();
        for (int f : wrong) {
            DUE.is("best of feature " + f, x.bestValue(0, f), BAD);
            DUE.is("best of feature " + f, x.bestValue(65535, f), BAD);
        }
    }

    private static void bestPoint(int[] wrong) {
        TreeScorer x = Edges.mixed();
        for (int point : wrong) {
            for (int f = 0; f < 4; f++) {
                DUE.is("best of feature " + f + " from " + point, x.bestValue(point, f), BAD);
            }
        }
    }

    private static void reachableOneLeaf() {
        TreeScorer x = Edges.allFull();
        for (int t = 0; t < 4; t++) {
            DUE.is("new tree " + t, new TreeScorer().reachable(t), 1);
            x.clear(t);
            DUE.is("cleared tree " + t, x.reachable(t), 1);
        }
    }

    private static void reachableAllEight() {
        TreeScorer x = Edges.allFull();
        for (int t = 0; t < 4; t++) {
            DUE.is("full tree " + t, x.reachable(t), 255);
        }
    }

    private static void reachableFewOfEight() {
        for (int t = 0; t < 4; t++) {
            TreeScorer first = new TreeScorer();
            TreeScorer last = new TreeScorer();
            last.split(t, 0, 1, 0);
            for (int n = 0; n < 7; n++) {
                first.split(t, 0, 2, 15);
            }
            for (int n = 0; n < 6; n++) {
                last.split(t, 1, 1, 0);
            }
            DUE.is("the first of eight", first.reachable(t), 1);
            DUE.is("the first and the last of eight", last.reachable(t), 0b10000001);
        }
    }

    private static void reachableNothingAbove15() {
        for (int f = 0; f < 4; f++) {
            TreeScorer x = new TreeScorer();
            x.split(0, 0, f, 15);
            DUE.is("feature " + f + " at 15", x.reachable(0), 0b01);
            x.clear(0);
            x.split(0, 0, f, 14);
            DUE.is("feature " + f + " at 14", x.reachable(0), 0b11);
        }
    }

    private static void reachableContradiction() {
        for (int f = 0; f < 4; f++) {
            DUE.is("more than 9 among those up to 5", contradiction(f).reachable(0), 0b101);
            TreeScorer right = new TreeScorer();
            right.split(0, 0, f, 9);
            right.split(0, 1, f, 9);
            DUE.is("up to 9 among those above 9", right.reachable(0), 0b101);
            TreeScorer far = new TreeScorer();
            far.split(0, 0, f, 9);
            far.split(0, 0, (f + 1) % 4, 7);
            far.split(0, 0, f, 9);
            DUE.is("another question between", far.reachable(0), 0b1101);
            TreeScorer near = new TreeScorer();
            near.split(0, 0, f, 9);
            near.split(0, 1, f, 10);
            DUE.is("up to 10 among those above 9", near.reachable(0), 0b111);
        }
    }

    private static void reachableBelowNothing() {
        TreeScorer x = contradiction(3);
        x.split(0, 1, 0, 7);
        DUE.is("a fork where no point comes", x.reachable(0), 0b1001);
        x.split(0, 2, 3, 12);
        DUE.is("one more, on the same feature", x.reachable(0), 0b10001);
        x.split(0, 1, 3, 3);
        DUE.is("and one on the left", x.reachable(0), 0b100001);
    }

    private static void reachableOnePoint() {
        DUE.is("a leaf with one point", Edges.onePoint().reachable(1), 255);
    }

    private static void reachableTree(int[] wrong) {
        TreeScorer x = Edges.mixed();
        for (int t : wrong) {
            DUE.is("reachable " + t, x.reachable(t), 0);
        }
    }

    private static void rangeOneLeaf() {
        TreeScorer x = new TreeScorer();
        for (int t = 0; t < 4; t++) {
            for (int f = 0; f < 4; f++) {
                DUE.is("least " + t + " " + f, x.range(t, 0, f, 0), 0);
                DUE.is("greatest " + t + " " + f, x.range(t, 0, f, 1), 15);
            }
        }
    }

    private static void rangeAtEachLimit() {
        for (int f = 0; f < 4; f++) {
            for (int limit = 0; limit < 15; limit++) {
                TreeScorer x = new TreeScorer();
                x.split(3, 0, f, limit);
                DUE.is("left, least", x.range(3, 0, f, 0), 0);
                DUE.is("left, greatest", x.range(3, 0, f, 1), limit);
                DUE.is("right, least", x.range(3, 1, f, 0), limit + 1);
                DUE.is("right, greatest", x.range(3, 1, f, 1), 15);
                DUE.is("right, another feature's least", x.range(3, 1, (f + 1) % 4, 0), 0);
                DUE.is("left, another feature's greatest", x.range(3, 0, (f + 3) % 4, 1), 15);
            }
        }
    }

    private static void rangeOnePoint() {
        TreeScorer x = Edges.onePoint();
        int[] want = {7, 7, 7, 0};
        for (int f = 0; f < 4; f++) {
            DUE.is("least " + f, x.range(1, 3, f, 0), want[f]);
            DUE.is("greatest " + f, x.range(1, 3, f, 1), want[f]);
        }
    }

    private static void rangeLimitOutside() {
        for (int f = 0; f < 4; f++) {
            TreeScorer x = contradiction(f);
            DUE.is("up to 5, then up to 9: least", x.range(0, 0, f, 0), 0);
            DUE.is("up to 5, then up to 9: greatest", x.range(0, 0, f, 1), 5);
            x.split(0, 2, f, 2);
            DUE.is("above 5, then above 2: least", x.range(0, 3, f, 0), 6);
            DUE.is("above 5, then above 2: greatest", x.range(0, 3, f, 1), 15);
        }
    }

    private static void noPoint(String name, TreeScorer x, int t, int i) {
        for (int f = 0; f < 4; f++) {
            DUE.is(name + ", least " + f, x.range(t, i, f, 0), BAD);
            DUE.is(name + ", greatest " + f, x.range(t, i, f, 1), BAD);
        }
    }

    private static void rangeNothingAbove15() {
        for (int f = 0; f < 4; f++) {
            TreeScorer x = new TreeScorer();
            x.split(2, 0, f, 15);
            noPoint("feature " + f + " above 15", x, 2, 1);
            DUE.is("the left part has all", x.range(2, 0, f, 1), 15);
        }
    }

    private static void rangeContradiction() {
        for (int f = 0; f < 4; f++) {
            noPoint("more than 9 among those up to 5", contradiction(f), 0, 1);
            TreeScorer right = new TreeScorer();
            right.split(0, 0, f, 9);
            right.split(0, 1, f, 9);
            noPoint("up to 9 among those above 9", right, 0, 1);
        }
    }

    private static void rangeBelowNothing() {
        for (int f = 0; f < 4; f++) {
            TreeScorer x = contradiction(f);
            x.split(0, 1, (f + 1) % 4, 7);
            noPoint("left below nothing", x, 0, 1);
            noPoint("right below nothing", x, 0, 2);
        }
    }

    private static void rangeTree(int[] wrong) {
        TreeScorer x = Edges.allFull();
        for (int t : wrong) {
            for (int f = 0; f < 4; f++) {
                DUE.is("range in tree " + t, x.range(t, 0, f, 0), BAD);
                DUE.is("range in tree " + t, x.range(t, 7, f, 1), BAD);
            }
        }
    }

    private static void rangeLeafTooSmall() {
        TreeScorer x = Edges.allFull();
        for (int t = 0; t < 4; t++) {
            for (int i : Edges.BELOW_0) {
                DUE.is("least of leaf " + i + " in tree " + t, x.range(t, i, 3, 0), BAD);
                DUE.is("greatest of leaf " + i + " in tree " + t, x.range(t, i, 0, 1), BAD);
            }
        }
    }

    private static void rangeLeafTooLarge() {
        for (int t = 0; t < 4; t++) {
            for (int n = 1; n <= 8; n++) {
                TreeScorer x = Edges.grown(t, n);
                for (int i : new int[] {n, n + 1, 8, 16, 32, 1 << 29, (1 << 27) + 1, MAX}) {
                    DUE.is("least of leaf " + i + " of " + n, x.range(t, i, 0, 0), BAD);
                    DUE.is("greatest of leaf " + i + " of " + n, x.range(t, i, 3, 1), BAD);
                }
                DUE.is("greatest of the last of " + n, x.range(t, n - 1, t, 1), 15);
            }
        }
    }

    private static void rangeLeafGone() {
        for (int t = 0; t < 4; t++) {
            TreeScorer x = Edges.grown(t, 8);
            x.clear(t);
            for (int i = 1; i < 8; i++) {
                noPoint("old leaf " + i, x, t, i);
            }
        }
    }

    private static void rangeFeature(int[] wrong) {
        TreeScorer x = Edges.allFull();
        for (int f : wrong) {
            for (int t = 0; t < 4; t++) {
                DUE.is("least " + f + " in tree " + t, x.range(t, 0, f, 0), BAD);
                DUE.is("greatest " + f + " in tree " + t, x.range(t, 7, f, 1), BAD);
            }
        }
    }

    private static void rangeWhat(int[] wrong) {
        TreeScorer x = Edges.allFull();
        for (int what : wrong) {
            for (int t = 0; t < 4; t++) {
                DUE.is("what " + what + " in tree " + t, x.range(t, 0, 0, what), BAD);
                DUE.is("what " + what + " in tree " + t, x.range(t, 7, 3, what), BAD);
            }
        }
    }

    private static void asksNone() {
        TreeScorer x = new TreeScorer();
        for (int f = 0; f < 4; f++) {
            DUE.is("no forks, asks " + f, x.asks(f), 0);
        }
        for (int asked = 0; asked < 4; asked++) {
            TreeScorer one = new TreeScorer();
            one.split(2, 0, asked, 7);
            for (int f = 0; f < 4; f++) {
                DUE.is("a fork on " + asked + ", asks " + f, one.asks(f), f == asked ? 1 : 0);
            }
        }
    }

    private static void asksAll() {
        for (int f = 0; f < 4; f++) {
            TreeScorer x = new TreeScorer();
            int forks = 0;
            for (int t = 0; t < 4; t++) {
                for (int n = 0; n < 7; n++) {
                    x.split(t, n / 2, f, 2 * n);
                    forks++;
                    DUE.is("asks " + f + " after fork " + forks, x.asks(f), forks);
                }
            }
            DUE.is("asks " + f + ", all full", x.asks(f), 28);
        }
    }

    private static void asksFirstAndLast() {
        for (int t = 0; t < 4; t += 3) {
            for (int f = 0; f < 4; f += 3) {
                TreeScorer x = new TreeScorer();
                x.split(t, 0, f, 0);
                x.split(t, 1, f, 15);
                DUE.is("asks " + f + " with forks in tree " + t, x.asks(f), 2);
                DUE.is("asks " + (3 - f) + " with forks in tree " + t, x.asks(3 - f), 0);
            }
        }
    }

    private static void asksWithoutPoints() {
        TreeScorer x = new TreeScorer();
        x.split(0, 0, 1, 15);
        DUE.is("a fork that parts nothing", x.asks(1), 1);
        x.split(0, 1, 1, 7);
        DUE.is("a fork where no point comes", x.asks(1), 2);
    }

    private static void asksAfterRefused() {
        TreeScorer x = Edges.allFull();
        for (int f = 0; f < 4; f++) {
            DUE.is("FULL split", x.split(f, 0, f, 7), FULL);
            DUE.is("BAD split", x.split(f, 8, f, 7), BAD);
            DUE.is("asks " + f, x.asks(f), 7);
        }
        TreeScorer empty = new TreeScorer();
        DUE.is("split at 16", empty.split(0, 0, 2, 16), BAD);
        DUE.is("split leaf 1", empty.split(0, 1, 2, 7), BAD);
        DUE.is("split tree 4", empty.split(4, 0, 2, 7), BAD);
        DUE.is("asks 2", empty.asks(2), 0);
    }

    private static void asksAfterClear() {
        TreeScorer x = new TreeScorer();
        for (int t = 0; t < 4; t++) {
            for (int n = 0; n < 7; n++) {
                x.split(t, 0, n % 4, 7);
            }
        }
        for (int t = 0; t < 4; t++) {
            x.clear(t);
            for (int f = 0; f < 4; f++) {
                DUE.is("asks " + f + " after clear " + t, x.asks(f), (3 - t) * (f < 3 ? 2 : 1));
            }
        }
    }

    private static void asksOf(int[] wrong) {
        TreeScorer x = Edges.mixed();
        for (int f : wrong) {
            DUE.is("asks " + f, x.asks(f), BAD);
        }
    }
}
