/**
 * Adds up what a few decision trees say about a point.
 *
 * A tree is held as the row of its leaves. Each leaf keeps the box of points that come to it: a
 * least and a greatest value for each feature. The forks above a leaf say nothing more than that
 * box does, so no fork is kept and no walk from the top is needed. The boxes of a tree share out
 * all points among them; a box whose least is above its greatest in some feature holds no point.
 */
public final class TreeScorer {
    public static final int BAD = -1;
    public static final int FULL = -2;

    private static final int TREES = 4;
    private static final int FEATURES = 4;
    private static final int FEATURE_BITS = 4;
    private static final int GREATEST_FEATURE = 15;
    private static final int GREATEST_POINT = 65535;
    private static final int MOST_LEAVES = 8;
    private static final int ALL_LEAVES = TREES * MOST_LEAVES;
    private static final int ALL_SIDES = ALL_LEAVES * FEATURES;
    private static final int ALL_ASKED = TREES * FEATURES;

    private final int[] leafCount = new int[TREES];
    private final int[] leafValue = new int[ALL_LEAVES];
    private final int[] forksAbove = new int[ALL_LEAVES];
    private final int[] boxLeast = new int[ALL_SIDES];
    private final int[] boxGreatest = new int[ALL_SIDES];
    private final int[] asked = new int[ALL_ASKED];

    public TreeScorer() {
        for (int t = 0; t < TREES; t++) {
            makeOneLeaf(t);
        }
    }

    public int split(int t, int i, int f, int limit) {
        if (!isLeaf(t, i) || !isFeature(f) || limit < 0 || limit > GREATEST_FEATURE) {
            return BAD;
        }
        if (leafCount[t] == MOST_LEAVES) {
            return FULL;
        }
        doubleLeaf(t, i);
        int left = slot(t, i);
        int right = left + 1;
        leafValue[right] = 0;
        forksAbove[left]++;
        forksAbove[right]++;
        lowerGreatest(left, f, limit);
        raiseLeast(right, f, limit + 1);
        asked[t * FEATURES + f]++;
        return leafCount[t];
    }

    public boolean setValue(int t, int i, int v) {
        if (!isLeaf(t, i)) {
            return false;
        }
        leafValue[slot(t, i)] = v;
        return true;
    }

    public boolean clear(int t) {
        if (!isTree(t)) {
            return false;
        }
        makeOneLeaf(t);
        return true;
    }

    public int leaves(int t) {
        return isTree(t) ? leafCount[t] : BAD;
    }

    public int value(int t, int i) {
        return isLeaf(t, i) ? leafValue[slot(t, i)] : 0;
    }

    public int leafOf(int t, int point) {
        return isTree(t) && isPoint(point) ? findLeaf(t, point) : BAD;
    }

    public int score(int point) {
        return isPoint(point) ? sumOfValues(point) : 0;
    }

    public int depth(int point) {
        if (!isPoint(point)) {
            return BAD;
        }
        int forks = 0;
        for (int t = 0; t < TREES; t++) {
            int leaf = findLeaf(t, point);
            forks += forksAbove[slot(t, leaf)];
        }
        return forks;
    }

    public int leavesAlong(int t, int point, int f) {
        if (!isTree(t) || !isPoint(point) || !isFeature(f)) {
            return 0;
        }
        int found = 0;
        for (int x = 0; x <= GREATEST_FEATURE; x++) {
            int moved = withFeature(point, f, x);
            found |= 1 << findLeaf(t, moved);
        }
        return found;
    }

    public int bestValue(int point, int f) {
        if (!isPoint(point) || !isFeature(f)) {
            return BAD;
        }
        int best = 0;
        int first = withFeature(point, f, 0);
        int bestSum = sumOfValues(first);
        for (int x = 1; x <= GREATEST_FEATURE; x++) {
            int moved = withFeature(point, f, x);
            int sum = sumOfValues(moved);
            if (sum > bestSum) {
                best = x;
                bestSum = sum;
            }
        }
        return best;
    }

    public int reachable(int t) {
        if (!isTree(t)) {
            return 0;
        }
        int found = 0;
        for (int i = 0; i < leafCount[t]; i++) {
            int leaf = slot(t, i);
            if (hasPoint(leaf)) {
                found |= 1 << i;
            }
        }
        return found;
    }

    public int range(int t, int i, int f, int what) {
        if (!isLeaf(t, i) || !isFeature(f) || what < 0 || what > 1) {
            return BAD;
        }
        int leaf = slot(t, i);
        if (!hasPoint(leaf)) {
            return BAD;
        }
        int side = leaf * FEATURES + f;
        return what == 0 ? boxLeast[side] : boxGreatest[side];
    }

    public int asks(int f) {
        if (!isFeature(f)) {
            return BAD;
        }
        int forks = 0;
        for (int t = 0; t < TREES; t++) {
            forks += asked[t * FEATURES + f];
        }
        return forks;
    }

    private static boolean isTree(int t) {
        return t >= 0 && t < TREES;
    }

    private static boolean isFeature(int f) {
        return f >= 0 && f < FEATURES;
    }

    private static boolean isPoint(int point) {
        return point >= 0 && point <= GREATEST_POINT;
    }

    private boolean isLeaf(int t, int i) {
        return isTree(t) && i >= 0 && i < leafCount[t];
    }

    private static int slot(int t, int i) {
        return t * MOST_LEAVES + i;
    }

    private static int featureOf(int point, int f) {
        return (point >> (f * FEATURE_BITS)) & GREATEST_FEATURE;
    }

    private static int withFeature(int point, int f, int x) {
        int shift = f * FEATURE_BITS;
        return (point & ~(GREATEST_FEATURE << shift)) | (x << shift);
    }

    private void makeOneLeaf(int t) {
        int leaf = slot(t, 0);
        leafCount[t] = 1;
        leafValue[leaf] = 0;
        forksAbove[leaf] = 0;
        for (int f = 0; f < FEATURES; f++) {
            boxLeast[leaf * FEATURES + f] = 0;
            boxGreatest[leaf * FEATURES + f] = GREATEST_FEATURE;
            asked[t * FEATURES + f] = 0;
        }
    }

    private void doubleLeaf(int t, int i) {
        // From the right end, so that no leaf is written over before it has moved.
        for (int j = leafCount[t]; j > i; j--) {
            int to = slot(t, j);
            copyLeaf(to - 1, to);
        }
        leafCount[t]++;
    }

    private void copyLeaf(int from, int to) {
        leafValue[to] = leafValue[from];
        forksAbove[to] = forksAbove[from];
        for (int f = 0; f < FEATURES; f++) {
            boxLeast[to * FEATURES + f] = boxLeast[from * FEATURES + f];
            boxGreatest[to * FEATURES + f] = boxGreatest[from * FEATURES + f];
        }
    }

    private void lowerGreatest(int leaf, int f, int bound) {
        int side = leaf * FEATURES + f;
        if (boxGreatest[side] > bound) {
            boxGreatest[side] = bound;
        }
    }

    private void raiseLeast(int leaf, int f, int bound) {
        int side = leaf * FEATURES + f;
        if (boxLeast[side] < bound) {
            boxLeast[side] = bound;
        }
    }

    private boolean hasPoint(int leaf) {
        for (int f = 0; f < FEATURES; f++) {
            int side = leaf * FEATURES + f;
            if (boxLeast[side] > boxGreatest[side]) {
                return false;
            }
        }
        return true;
    }

    private boolean holds(int leaf, int point) {
        for (int f = 0; f < FEATURES; f++) {
            int side = leaf * FEATURES + f;
            int x = featureOf(point, f);
            if (x < boxLeast[side] || x > boxGreatest[side]) {
                return false;
            }
        }
        return true;
    }

    private int findLeaf(int t, int point) {
        // The last leaf needs no look: a point that is in no other box is in its box.
        int last = leafCount[t] - 1;
        for (int i = 0; i < last; i++) {
            int leaf = slot(t, i);
            if (holds(leaf, point)) {
                return i;
            }
        }
        return last;
    }

    private int sumOfValues(int point) {
        int sum = 0;
        for (int t = 0; t < TREES; t++) {
            int leaf = findLeaf(t, point);
            sum += leafValue[slot(t, leaf)];
        }
        return sum;
    }
}
