import java.util.function.Consumer;

/** What the document says before its promises ('What it is' and 'Terms') and after them ('Not promised'). */
public final class TermsTest {
    private static final int BAD = Edges.BAD;
    private static final int FULL = Edges.FULL;
    private static final int MOST_CALLS = 512;
    private static final Due DUE = new Due();

    public static void main(String[] args) {
        whatItIs();
        points();
        trees();
        scores();
        notPromised();
        DUE.end();
    }

    private static void whatItIs() {
        DUE.sentence("What it is: adds up what the trees say about a point", TermsTest::addsUp);
        DUE.sentence("What it is: each kind of call may be the 512th", TermsTest::eachKindLast);
    }

    private static void points() {
        DUE.sentence("Terms: a point has four features, each 0 .. 15", TermsTest::fourFeatures);
        DUE.sentence("Terms: each of the 65536 points is written as a number", TermsTest::eachPoint);
    }

    private static void trees() {
        DUE.sentence("Terms: there are trees 0 .. 3, each for itself", TermsTest::treesForThemselves);
        DUE.sentence("Terms: at most seven forks, and one more leaf than forks", TermsTest::oneMoreLeafThanForks);
        DUE.sentence("Terms: a fork asks whether a feature is at most a limit, each of each", TermsTest::eachQuestion);
        DUE.sentence("Terms: a part is a fork or a leaf, leaves being counted from the left", TermsTest::eachForm);
    }

    private static void scores() {
        DUE.sentence("Terms: a leaf's value is 0 at first, right of each fork", TermsTest::valuesAtFirst);
        DUE.sentence("Terms: the score is the wrapping sum over all four trees", TermsTest::wrappingSum);
    }

    private static void notPromised() {
        DUE.sentence("Not promised: no state change by leaves, value, asks, reachable", TermsTest::looksChangeNothing);
        DUE.sentence("Not promised: no state change by range", TermsTest::rangeChangesNothing);
        DUE.sentence("Not promised: no state change by leafOf, score, depth", TermsTest::pointsChangeNothing);
        DUE.sentence("Not promised: no state change by leavesAlong, bestValue", TermsTest::alongChangesNothing);
    }

    private static void addsUp() {
        for (int point = 0; point < 65536; point += 257) {
            TreeScorer x = Edges.mixed();
            int sum = 0;
            for (int t = 0; t < 4; t++) {
                sum += x.value(t, x.leafOf(t, point));
            }
            DUE.is("score " + point, x.score(point), sum);
        }
    }

    /** After 511 calls tree 0 has eight leaves, tree 1 two and the others one. */
    private static TreeScorer beforeLastCall() {
        TreeScorer x = new TreeScorer();
        int calls = 0;
        for (; calls < MOST_CALLS - 1 - 10; calls++) {
            if (calls % 2 == 0) {
                x.split(calls % 4, 0, 3, 9);
            } else {
                x.clear(calls % 4 - 1);
            }
        }
        x.clear(0);
        for (int n = 0; n < 7; n++) {
            x.split(0, n, 0, 2 * n);
        }
        x.split(1, 0, 1, 7);
        x.setValue(1, 1, 6);
        return x;
    }

    private static void eachKindLast() {
        DUE.is("split as call 512", beforeLastCall().split(1, 1, 2, 5), 3);
        DUE.is("BAD split as call 512", beforeLastCall().split(1, 2, 2, 5), BAD);
        DUE.is("FULL split as call 512", beforeLastCall().split(0, 7, 2, 5), FULL);
        DUE.is("setValue as call 512", beforeLastCall().setValue(0, 7, 1), true);
        DUE.is("clear as call 512", beforeLastCall().clear(0), true);
        DUE.is("leaves as call 512", beforeLastCall().leaves(0), 8);
        DUE.is("value as call 512", beforeLastCall().value(1, 1), 6);
        DUE.is("leafOf as call 512", beforeLastCall().leafOf(0, 15), 7);
        DUE.is("score as call 512", beforeLastCall().score(16 * 8), 6);
        DUE.is("depth as call 512", beforeLastCall().depth(15), 8);
        DUE.is("leavesAlong as call 512", beforeLastCall().leavesAlong(0, 0, 0), 255);
        DUE.is("bestValue as call 512", beforeLastCall().bestValue(0, 1), 8);
        DUE.is("reachable as call 512", beforeLastCall().reachable(0), 255);
        DUE.is("range as call 512", beforeLastCall().range(0, 7, 0, 0), 13);
        DUE.is("asks as call 512", beforeLastCall().asks(0), 7);
    }

    private static void fourFeatures() {
        TreeScorer x = new TreeScorer();
        for (int f = 0; f < 4; f++) {
            DUE.is("asks " + f, x.asks(f), 0);
            for (int t = 0; t < 4; t++) {
                DUE.is("least " + f + " in " + t, x.range(t, 0, f, 0), 0);
                DUE.is("greatest " + f + " in " + t, x.range(t, 0, f, 1), 15);
            }
        }
        DUE.is("asks 4", x.asks(4), BAD);
    }

    /** Tree f tells feature f apart at the limits first, first + 2, .. . */
    private static TreeScorer rulers(int first) {
        TreeScorer x = new TreeScorer();
        for (int f = 0; f < 4; f++) {
            for (int n = 0; n < 7; n++) {
                x.split(f, n, f, first + 2 * n);
            }
        }
        return x;
    }

    private static void eachPoint() {
        // Seven limits do not part all 16 values of a feature; the three rulers together do.
        for (int first = 0; first < 3; first++) {
            for (int start = 0; start < 65536; start += 64) {
                TreeScorer x = rulers(first);
                for (int point = start; point < start + 64; point++) {
                    readPoint(x, point, first);
                }
            }
        }
    }

    private static void readPoint(TreeScorer x, int point, int first) {
        int[] features = {point % 16, point / 16 % 16, point / 256 % 16, point / 4096};
        for (int f = 0; f < 4; f++) {
            int limitsBelow = 0;
            for (int n = 0; n < 7; n++) {
                limitsBelow += first + 2 * n < features[f] ? 1 : 0;
            }
            DUE.is("leafOf " + f + " " + point, x.leafOf(f, point), limitsBelow);
        }
    }

    private static void treesForThemselves() {
        TreeScorer x = new TreeScorer();
        for (int t = 0; t < 4; t++) {
            DUE.is("split " + t, x.split(t, 0, 3 - t, 3 + t), 2);
            DUE.is("setValue " + t, x.setValue(t, 1, 50 + t), true);
            for (int other = 0; other < 4; other++) {
                DUE.is("leaves " + other, x.leaves(other), other <= t ? 2 : 1);
                DUE.is("value " + other, x.value(other, 1), other <= t ? 50 + other : 0);
                DUE.is("greatest " + other, x.range(other, 0, 3 - other, 1), other <= t ? 3 + other : 15);
            }
        }
    }

    private static void oneMoreLeafThanForks() {
        for (int t = 0; t < 4; t++) {
            TreeScorer x = new TreeScorer();
            for (int n = 0; n < 10; n++) {
                int forks = x.asks(0) + x.asks(1) + x.asks(2) + x.asks(3);
                DUE.is("forks of " + t, forks, Math.min(n, 7));
                DUE.is("leaves of " + t, x.leaves(t), forks + 1);
                DUE.is("split " + t, x.split(t, n / 2, n % 4, 7), n < 7 ? n + 2 : FULL);
            }
        }
    }

    private static void eachQuestion() {
        for (int f = 0; f < 4; f++) {
            for (int limit = 0; limit < 16; limit++) {
                TreeScorer x = new TreeScorer();
                x.split(limit % 4, 0, f, limit);
                for (int feature = 0; feature < 16; feature++) {
                    int low = feature * Edges.step(f);
                    int high = 65535 - (15 - feature) * Edges.step(f);
                    String name = "is " + feature + " at most " + limit + " in feature " + f;
                    DUE.is(name + ", others 0", x.leafOf(limit % 4, low), feature <= limit ? 0 : 1);
                    DUE.is(name + ", others 15", x.leafOf(limit % 4, high), feature <= limit ? 0 : 1);
                }
            }
        }
    }

    /** All 5040 rows of seven splits, and so each of the 429 forms of a tree with seven forks. */
    private static void eachForm() {
        for (int row = 0; row < 5040; row++) {
            TreeScorer x = new TreeScorer();
            PlainTrees y = new PlainTrees();
            int t = row % 4;
            int rest = row;
            for (int n = 1; n <= 7; n++) {
                int i = rest % n;
                rest /= n;
                int f = (row / 7 + n * n) % 4;
                int limit = (row / 3 + 5 * n) % 16;
                DUE.is("row " + row + ": split " + n, x.split(t, i, f, limit), y.split(t, i, f, limit));
                DUE.is("row " + row + ": setValue " + n, x.setValue(t, i + 1, n), y.setValue(t, i + 1, n));
            }
            sameLeaves("row " + row + ": ", x, y, t);
        }
    }

    private static void sameLeaves(String row, TreeScorer x, PlainTrees y, int t) {
        for (int i = 0; i < 8; i++) {
            DUE.is(row + "value " + i, x.value(t, i), y.value(t, i));
        }
        for (int a = 0; a < 81; a++) {
            int point = Edges.point(a % 3 * 6 + 1, a / 3 % 3 * 6 + 2, a / 9 % 3 * 6 + 3, a / 27 * 6);
            DUE.is(row + "leafOf " + point, x.leafOf(t, point), y.leafOf(t, point));
            DUE.is(row + "depth " + point, x.depth(point), y.depth(point));
        }
    }

    private static void valuesAtFirst() {
        TreeScorer x = new TreeScorer();
        for (int t = 0; t < 4; t++) {
            DUE.is("value of the first leaf of " + t, x.value(t, 0), 0);
            x.setValue(t, 0, 9);
            for (int n = 0; n < 7; n++) {
                x.split(t, n, 1, 2 * n);
                DUE.is("value right of fork " + n + " of " + t, x.value(t, n + 1), 0);
                x.setValue(t, n + 1, 10 + n);
            }
        }
    }

    private static void wrappingSum() {
        int[] some = {0, 1, -1, Edges.MAX, Edges.MIN, 1 << 30};
        for (int a : some) {
            TreeScorer x = new TreeScorer();
            x.setValue(0, 0, a);
            for (int b : some) {
                x.setValue(1, 0, b);
                for (int c : some) {
                    x.setValue(2, 0, c);
                    for (int d = 0; d < 2; d++) {
                        x.setValue(3, 0, d);
                        int due = (int) ((long) a + b + c + d);
                        DUE.is("score of " + a + ", " + b + ", " + c + ", " + d, x.score(4660), due);
                    }
                }
            }
        }
    }

    private static void unchangedBy(String name, Consumer<TreeScorer> calls) {
        Edges.alikeAfter(DUE, name, Edges.mixed(), Edges.mixed(), calls);
    }

    private static void looksChangeNothing() {
        unchangedBy("looks", x -> {
            for (int t = -1; t < 5; t++) {
                x.leaves(t);
                x.value(t, 2 * t);
                x.asks(t);
                x.reachable(t);
            }
        });
    }

    private static void rangeChangesNothing() {
        unchangedBy("range", x -> {
            for (int n = -1; n < 9; n++) {
                x.range(3, n, n % 4, 0);
                x.range(n, 0, n % 5, 1);
                x.range(2, n, 0, n);
            }
        });
    }

    private static void pointsChangeNothing() {
        for (int point : new int[] {-1, 0, 4660, 65535, 65536}) {
            unchangedBy("at " + point, x -> {
                x.score(point);
                x.depth(point);
                for (int t = -1; t < 5; t++) {
                    x.leafOf(t, point);
                }
            });
        }
    }

    private static void alongChangesNothing() {
        for (int point : new int[] {-1, 0, 4660, 65535, 65536}) {
            unchangedBy("along " + point, x -> {
                for (int f = -1; f < 5; f++) {
                    x.bestValue(point, f);
                    x.leavesAlong(f, point, f);
                    x.leavesAlong(2, point, f);
                }
            });
        }
    }
}
