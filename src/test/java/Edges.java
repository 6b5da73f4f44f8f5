import java.util.function.Consumer;

/** What the boundary tests share: numbers just and far outside, trees to try them on, and a look at all of an object. */
final class Edges {
    static final int BAD = -1;
    static final int FULL = -2;
    static final int MIN = Integer.MIN_VALUE;
    static final int MAX = Integer.MAX_VALUE;

    // Beside the nearest numbers stand some that a multiplication, a shift or a mask would bring back into range.
    static final int[] BELOW_0 = {-1, -2, -3, -4, -8, -15, -16, -65535, -65536, -(1 << 28), -(1 << 29), MIN + 1, MIN};
    static final int[] ABOVE_1 = {2, 3, 4, 256, 1 << 16, MAX - 1, MAX};
    static final int[] ABOVE_3 = {4, 5, 7, 8, 9, 16, 256, 1 << 16, 1 << 28, 1 << 29, (1 << 29) + 1, 1 << 30, MAX - 1, MAX};
    static final int[] ABOVE_15 = {16, 17, 31, 32, 255, 256, 1 << 16, 1 << 28, MAX - 1, MAX};
    static final int[] ABOVE_65535 = {65536, 65537, 65536 + 4660, 131071, 1 << 20, 1 << 30, MAX - 1, MAX};

    private static final int[] POINTS = {0, 1, 15, 16, 4096, 4660, 0x7777, 0x8888, 0xfff0, 65535};

    private Edges() {
    }

    static int point(int a, int b, int c, int d) {
        return a + 16 * b + 256 * c + 4096 * d;
    }

    static int step(int f) {
        return new int[] {1, 16, 256, 4096}[f];
    }

    /** Tree t gets n leaves, each with points, the last leaf being split each time; leaf i has value base + i. */
    static void grow(TreeScorer x, int t, int n, int base) {
        for (int i = 0; i + 1 < n; i++) {
            x.split(t, i, t, 2 * i);
        }
        for (int i = 0; i < n; i++) {
            x.setValue(t, i, base + i);
        }
    }

    static TreeScorer grown(int t, int n) {
        TreeScorer x = new TreeScorer();
        grow(x, t, n, 100);
        return x;
    }

    /** Trees of 1, 3, 8 and 8 leaves; no leaf has value 0, no point has score 0, and tree 3 has leaves without points. */
    static TreeScorer mixed() {
        TreeScorer x = new TreeScorer();
        grow(x, 0, 1, 10);
        grow(x, 1, 3, 20);
        grow(x, 2, 8, 40);
        for (int n = 0; n < 7; n++) {
            x.split(3, n / 2, n % 4, 15 - 2 * n);
        }
        for (int i = 0; i < 8; i++) {
            x.setValue(3, i, 80 + i);
        }
        return x;
    }

    /** Leaf 3 of tree 1 is for point 0x0777 alone: features 0 to 2 are shut in from both sides, 3 from above. */
    static TreeScorer onePoint() {
        TreeScorer x = new TreeScorer();
        for (int f = 0; f < 3; f++) {
            x.split(1, f, f, 6);
            x.split(1, f + 1, f, 7);
        }
        x.split(1, 3, 3, 0);
        return x;
    }

    /** Tree f parts 0 from 1 and 14 from 15 of feature f, so that the outermost points stand apart from all others. */
    static TreeScorer endsApart() {
        TreeScorer x = new TreeScorer();
        for (int f = 0; f < 4; f++) {
            x.split(f, 0, f, 0);
            x.split(f, 1, f, 14);
        }
        return x;
    }

    /** All four trees have eight leaves. */
    static TreeScorer allFull() {
        return allFullBut(-1);
    }

    /** One tree is as in a new object, the others have eight leaves. */
    static TreeScorer allFullBut(int one) {
        TreeScorer x = new TreeScorer();
        for (int t = 0; t < 4; t++) {
            if (t != one) {
                grow(x, t, 8, 100 * (t + 1));
            }
        }
        return x;
    }

    /** The first of two objects gets the calls; then both must answer alike, whatever is asked. */
    static void alikeAfter(Due due, String name, TreeScorer with, TreeScorer without, Consumer<TreeScorer> calls) {
        calls.accept(with);
        for (int t = 0; t < 4; t++) {
            due.is(name + ", then leaves " + t, with.leaves(t), without.leaves(t));
            due.is(name + ", then reachable " + t, with.reachable(t), without.reachable(t));
            due.is(name + ", then asks " + t, with.asks(t), without.asks(t));
            for (int i = 0; i < 8; i++) {
                due.is(name + ", then value " + t + " " + i, with.value(t, i), without.value(t, i));
                sameRanges(due, name, with, without, t, i);
            }
        }
        for (int point : POINTS) {
            due.is(name + ", then score " + point, with.score(point), without.score(point));
            due.is(name + ", then depth " + point, with.depth(point), without.depth(point));
            for (int t = 0; t < 4; t++) {
                due.is(name + ", then leafOf " + t + " " + point, with.leafOf(t, point), without.leafOf(t, point));
            }
        }
        sameRoom(due, name, with, without);
    }

    private static void sameRoom(Due due, String name, TreeScorer with, TreeScorer without) {
        for (int t = 0; t < 4; t++) {
            int answer = 0;
            for (int n = 0; n < 8 && answer != FULL; n++) {
                answer = without.split(t, 0, 0, 7);
                due.is(name + ", then split " + t, with.split(t, 0, 0, 7), answer);
            }
        }
    }

    private static void sameRanges(Due due, String name, TreeScorer with, TreeScorer without, int t, int i) {
        for (int f = 0; f < 4; f++) {
            for (int what = 0; what < 2; what++) {
                due.is(name + ", then range " + t + " " + i + " " + f + " " + what,
                    with.range(t, i, f, what), without.range(t, i, f, what));
            }
        }
    }
}
