/**
 * The document's words taken one by one, over real forks and leaves and by trying all points:
 * slow, and unlike the class in how it holds its trees, so that the two can be set side by side.
 */
final class PlainTrees {
    private static final int POINTS = 65536;

    private static final class Part {
        int feature;
        int limit;
        Part left;
        Part right;
        int value;

        boolean isLeaf() {
            return left == null;
        }

        int leaves() {
            return isLeaf() ? 1 : left.leaves() + right.leaves();
        }

        int asking(int f) {
            return isLeaf() ? 0 : (feature == f ? 1 : 0) + left.asking(f) + right.asking(f);
        }

        Part leaf(int i) {
            if (isLeaf()) {
                return this;
            }
            int before = left.leaves();
            return i < before ? left.leaf(i) : right.leaf(i - before);
        }
    }

    private final Part[] tops = {new Part(), new Part(), new Part(), new Part()};

    private static boolean in(int x, int most) {
        return 0 <= x && x <= most;
    }

    private static int with(int point, int f, int x) {
        int[] features = {point % 16, point / 16 % 16, point / 256 % 16, point / 4096};
        features[f] = x;
        return features[0] + 16 * features[1] + 256 * features[2] + 4096 * features[3];
    }

    private static int feature(int point, int f) {
        int[] features = {point % 16, point / 16 % 16, point / 256 % 16, point / 4096};
        return features[f];
    }

    private boolean hasLeaf(int t, int i) {
        return in(t, 3) && in(i, tops[t].leaves() - 1);
    }

    int split(int t, int i, int f, int limit) {
        if (!hasLeaf(t, i) || !in(f, 3) || !in(limit, 15)) {
            return -1;
        }
        if (tops[t].leaves() - 1 == 7) {
            return -2;
        }
        Part part = tops[t].leaf(i);
        part.feature = f;
        part.limit = limit;
        part.left = new Part();
        part.right = new Part();
        part.left.value = part.value;
        return tops[t].leaves();
    }

    boolean setValue(int t, int i, int v) {
        if (!hasLeaf(t, i)) {
            return false;
        }
        tops[t].leaf(i).value = v;
        return true;
    }

    boolean clear(int t) {
        if (!in(t, 3)) {
            return false;
        }
        tops[t] = new Part();
        return true;
    }

    int leaves(int t) {
        return in(t, 3) ? tops[t].leaves() : -1;
    }

    int value(int t, int i) {
        return hasLeaf(t, i) ? tops[t].leaf(i).value : 0;
    }

    int leafOf(int t, int point) {
        if (!in(t, 3) || !in(point, POINTS - 1)) {
            return -1;
        }
        int before = 0;
        Part part = tops[t];
        while (!part.isLeaf()) {
            if (feature(point, part.feature) <= part.limit) {
                part = part.left;
            } else {
                before += part.left.leaves();
                part = part.right;
            }
        }
        return before;
    }

    int score(int point) {
        if (!in(point, POINTS - 1)) {
            return 0;
        }
        int sum = 0;
        for (int t = 0; t < 4; t++) {
            sum += tops[t].leaf(leafOf(t, point)).value;
        }
        return sum;
    }

    int depth(int point) {
        if (!in(point, POINTS - 1)) {
            return -1;
        }
        int forks = 0;
        for (Part top : tops) {
            for (Part part = top; !part.isLeaf(); forks++) {
                part = feature(point, part.feature) <= part.limit ? part.left : part.right;
            }
        }
        return forks;
    }

    int leavesAlong(int t, int point, int f) {
        if (!in(t, 3) || !in(f, 3) || !in(point, POINTS - 1)) {
            return 0;
        }
        int bits = 0;
        for (int x = 0; x < 16; x++) {
            bits |= 1 << leafOf(t, with(point, f, x));
        }
        return bits;
    }

    int bestValue(int point, int f) {
        if (!in(f, 3) || !in(point, POINTS - 1)) {
            return -1;
        }
        int best = 15;
        for (int x = 14; x >= 0; x--) {
            if (score(with(point, f, x)) >= score(with(point, f, best))) {
                best = x;
            }
        }
        return best;
    }

    int reachable(int t) {
        int bits = 0;
        for (int point = 0; in(t, 3) && point < POINTS; point++) {
            bits |= 1 << leafOf(t, point);
        }
        return bits;
    }

    int range(int t, int i, int f, int what) {
        if (!hasLeaf(t, i) || !in(f, 3) || !in(what, 1)) {
            return -1;
        }
        int answer = -1;
        for (int point = 0; point < POINTS; point++) {
            if (leafOf(t, point) == i) {
                int x = feature(point, f);
                boolean better = what == 0 ? x < answer : x > answer;
                answer = answer == -1 || better ? x : answer;
            }
        }
        return answer;
    }

    int asks(int f) {
        if (!in(f, 3)) {
            return -1;
        }
        int forks = 0;
        for (Part top : tops) {
            forks += top.asking(f);
        }
        return forks;
    }
}
