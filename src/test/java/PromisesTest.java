/** For each promise of the document: ordinary inputs, the edges that it names, and wrong inputs. */
public final class PromisesTest {
    private static final int BAD = -1;
    private static final int FULL = -2;
    private static final int MIN = Integer.MIN_VALUE;
    private static final int MAX = Integer.MAX_VALUE;
    private static final int[] NOT_0_TO_3 = {-1, 4, -4, 5, 16, 1 << 30, MIN, MAX};
    private static final int[] NOT_A_POINT = {-1, 65536, 65537, 1 << 20, -65536, MIN, MAX};
    private static final Due DUE = new Due();

    public static void main(String[] args) {
        promise1NewObject();
        promise2Split();
        promise2SplitMovesLeavesUp();
        promise2SplitWrongInputs();
        promise2SplitFull();
        promise3SetValue();
        promise4Clear();
        promise4ClearAfterFull();
        promise5Leaves();
        promise6Value();
        promise7LeafOf();
        promise7LeafOfEachFeature();
        promise8Score();
        promise9Depth();
        promise10LeavesAlong();
        promise11BestValue();
        promise11BestValueEach();
        promise12Reachable();
        promise13Range();
        promise14Asks();
        promise15OrderAndLimits();
        DUE.end();
    }

    private static int point(int a, int b, int c, int d) {
        return a + 16 * b + 256 * c + 4096 * d;
    }

    private static TreeScorer fullTree(int t) {
        TreeScorer x = new TreeScorer();
        for (int i = 0; i < 7; i++) {
            DUE.is("2: split to " + (i + 2) + " leaves", x.split(t, i, 0, 2 * i), i + 2);
        }
        return x;
    }

    private static void promise1NewObject() {
        TreeScorer x = new TreeScorer();
        DUE.is("1: BAD", TreeScorer.BAD, BAD);
        DUE.is("1: FULL", TreeScorer.FULL, FULL);
        for (int t = 0; t < 4; t++) {
            DUE.is("1: leaves " + t, x.leaves(t), 1);
            DUE.is("1: value " + t, x.value(t, 0), 0);
            DUE.is("1: reachable " + t, x.reachable(t), 1);
            DUE.is("1: leafOf " + t, x.leafOf(t, 65535), 0);
            DUE.is("1: asks " + t, x.asks(t), 0);
            DUE.is("1: bestValue " + t, x.bestValue(65535, t), 0);
            for (int f = 0; f < 4; f++) {
                DUE.is("1: least " + t + " " + f, x.range(t, 0, f, 0), 0);
                DUE.is("1: greatest " + t + " " + f, x.range(t, 0, f, 1), 15);
            }
        }
        DUE.is("1: score", x.score(12345), 0);
        DUE.is("1: depth", x.depth(12345), 0);
        TreeScorer other = new TreeScorer();
        x.split(0, 0, 0, 3);
        x.setValue(1, 0, 9);
        DUE.is("1: objects share no forks", other.leaves(0), 1);
        DUE.is("1: objects share no values", other.value(1, 0), 0);
    }

    private static void promise2Split() {
        TreeScorer x = new TreeScorer();
        x.setValue(2, 0, 77);
        DUE.is("2: split", x.split(2, 0, 1, 6), 2);
        DUE.is("2: left keeps the value", x.value(2, 0), 77);
        DUE.is("2: right has 0", x.value(2, 1), 0);
        DUE.is("2: at the limit goes left", x.leafOf(2, point(0, 6, 0, 0)), 0);
        DUE.is("2: above the limit goes right", x.leafOf(2, point(0, 7, 0, 0)), 1);
        DUE.is("2: other features do not count", x.leafOf(2, point(15, 6, 15, 15)), 0);
        DUE.is("2: other trees stay", x.leaves(1), 1);
        DUE.is("2: other trees stay", x.leaves(3), 1);
        TreeScorer edge = new TreeScorer();
        DUE.is("2: limit 0", edge.split(0, 0, 0, 0), 2);
        DUE.is("2: limit 0, at it", edge.leafOf(0, 0), 0);
        DUE.is("2: limit 0, above it", edge.leafOf(0, 1), 1);
        DUE.is("2: limit 15", edge.split(3, 0, 3, 15), 2);
        DUE.is("2: limit 15, at it", edge.leafOf(3, 65535), 0);
    }

    private static void promise2SplitMovesLeavesUp() {
        TreeScorer x = new TreeScorer();
        x.split(1, 0, 0, 7);
        x.split(1, 1, 0, 11);
        x.setValue(1, 0, 10);
        x.setValue(1, 1, 20);
        x.setValue(1, 2, 30);
        DUE.is("2: split in the middle", x.split(1, 1, 3, 4), 4);
        int[] want = {10, 20, 0, 30, 0};
        for (int i = 0; i < want.length; i++) {
            DUE.is("2: value after the middle split, leaf " + i, x.value(1, i), want[i]);
        }
        DUE.is("2: moved leaf is found", x.leafOf(1, point(12, 0, 0, 0)), 3);
        DUE.is("2: new right leaf is found", x.leafOf(1, point(9, 0, 0, 5)), 2);
        DUE.is("2: new left leaf is found", x.leafOf(1, point(9, 0, 0, 4)), 1);
        DUE.is("2: split at the left end", x.split(1, 0, 2, 1), 5);
        int[] then = {10, 0, 20, 0, 30, 0};
        for (int i = 0; i < then.length; i++) {
            DUE.is("2: value after the left split, leaf " + i, x.value(1, i), then[i]);
        }
        DUE.is("2: split at the right end", x.split(1, 4, 2, 1), 6);
        DUE.is("2: value left of the right split", x.value(1, 4), 30);
        DUE.is("2: value right of the right split", x.value(1, 5), 0);
    }

    private static void promise2SplitWrongInputs() {
        TreeScorer x = new TreeScorer();
        for (int wrong : NOT_0_TO_3) {
            DUE.is("2: split tree " + wrong, x.split(wrong, 0, 0, 0), BAD);
            DUE.is("2: split feature " + wrong, x.split(0, 0, wrong, 0), BAD);
        }
        for (int wrong : new int[] {-1, 1, 7, 8, 9, MIN, MAX}) {
            DUE.is("2: split leaf " + wrong, x.split(0, wrong, 0, 0), BAD);
            DUE.is("2: split last tree's leaf " + wrong, x.split(3, wrong, 0, 0), BAD);
        }
        for (int wrong : new int[] {-1, 16, 17, MIN, MAX}) {
            DUE.is("2: split limit " + wrong, x.split(0, 0, 0, wrong), BAD);
        }
        for (int t = 0; t < 4; t++) {
            DUE.is("2: BAD changes nothing, leaves " + t, x.leaves(t), 1);
            DUE.is("2: BAD changes nothing, asks " + t, x.asks(t), 0);
        }
    }

    private static void promise2SplitFull() {
        for (int t = 0; t < 4; t++) {
            TreeScorer x = fullTree(t);
            x.setValue(t, 7, 70);
            for (int i = 0; i < 8; i++) {
                DUE.is("2: split leaf " + i + " of a full tree", x.split(t, i, 1, 3), FULL);
            }
            DUE.is("2: FULL changes nothing, leaves", x.leaves(t), 8);
            DUE.is("2: FULL changes nothing, value", x.value(t, 7), 70);
            DUE.is("2: FULL changes nothing, asks", x.asks(1), 0);
            DUE.is("2: FULL changes nothing, reachable", x.reachable(t), 255);
            DUE.is("2: another tree is not full", x.split((t + 1) % 4, 0, 0, 0), 2);
        }
    }

    private static void promise3SetValue() {
        TreeScorer x = new TreeScorer();
        x.split(3, 0, 0, 7);
        DUE.is("3: setValue", x.setValue(3, 1, MIN), true);
        DUE.is("3: value set", x.value(3, 1), MIN);
        DUE.is("3: neighbour stays", x.value(3, 0), 0);
        DUE.is("3: setValue again", x.setValue(3, 1, MAX), true);
        DUE.is("3: value set again", x.value(3, 1), MAX);
        for (int wrong : NOT_0_TO_3) {
            DUE.is("3: setValue tree " + wrong, x.setValue(wrong, 0, 5), false);
        }
        for (int wrong : new int[] {-1, 2, 8, -8, MIN, MAX}) {
            DUE.is("3: setValue leaf " + wrong, x.setValue(3, wrong, 5), false);
        }
        DUE.is("3: setValue leaf 8 of tree 0", x.setValue(0, 8, 5), false);
        DUE.is("3: setValue leaf -1 of tree 1", x.setValue(1, -1, 5), false);
        DUE.is("3: false changes nothing, score", x.score(0), 0);
        DUE.is("3: false changes nothing, value", x.value(3, 1), MAX);
        x.setValue(0, 1, 5);
        x.split(0, 0, 0, 3);
        DUE.is("3: a value for no leaf is not kept", x.value(0, 1), 0);
    }

    private static void promise4Clear() {
        TreeScorer x = new TreeScorer();
        x.split(0, 0, 1, 4);
        x.split(1, 0, 1, 5);
        x.setValue(0, 0, 8);
        x.setValue(1, 1, 9);
        DUE.is("4: clear", x.clear(0), true);
        DUE.is("4: leaves", x.leaves(0), 1);
        DUE.is("4: value", x.value(0, 0), 0);
        DUE.is("4: old leaf is gone", x.value(0, 1), 0);
        DUE.is("4: asks counts the others alone", x.asks(1), 1);
        DUE.is("4: reachable", x.reachable(0), 1);
        DUE.is("4: greatest is wide again", x.range(0, 0, 1, 1), 15);
        DUE.is("4: other trees stay", x.value(1, 1), 9);
        DUE.is("4: depth counts the others alone", x.depth(0), 1);
        x.setValue(2, 0, 6);
        DUE.is("4: clear of one leaf", x.clear(2), true);
        DUE.is("4: clear of one leaf, value", x.value(2, 0), 0);
    }

    private static void promise4ClearAfterFull() {
        TreeScorer x = fullTree(2);
        for (int i = 0; i < 8; i++) {
            x.setValue(2, i, 100 + i);
        }
        DUE.is("4: clear a full tree", x.clear(2), true);
        DUE.is("4: asks is 0", x.asks(0), 0);
        DUE.is("4: split again", x.split(2, 0, 3, 9), 2);
        DUE.is("4: no old value left", x.value(2, 0), 0);
        DUE.is("4: no old value right", x.value(2, 1), 0);
        DUE.is("4: no old limit", x.range(2, 1, 0, 0), 0);
        DUE.is("4: no old depth", x.depth(65535), 1);
        DUE.is("4: both are reachable", x.reachable(2), 3);
    }

    private static void promise5Leaves() {
        TreeScorer x = fullTree(1);
        int[] want = {1, 8, 1, 1};
        for (int t = 0; t < 4; t++) {
            DUE.is("5: leaves " + t, x.leaves(t), want[t]);
        }
        for (int wrong : NOT_0_TO_3) {
            DUE.is("5: leaves " + wrong, x.leaves(wrong), BAD);
        }
    }

    private static void promise6Value() {
        TreeScorer x = new TreeScorer();
        for (int t = 0; t < 4; t++) {
            x.split(t, 0, 0, 7);
            x.setValue(t, 0, 10 + t);
            x.setValue(t, 1, -20 - t);
        }
        for (int t = 0; t < 4; t++) {
            DUE.is("6: value left " + t, x.value(t, 0), 10 + t);
            DUE.is("6: value right " + t, x.value(t, 1), -20 - t);
            for (int wrong : new int[] {-1, 2, 7, 8, 9, -7, -8, MIN, MAX}) {
                DUE.is("6: value " + t + " " + wrong, x.value(t, wrong), 0);
            }
        }
        for (int wrong : NOT_0_TO_3) {
            DUE.is("6: value of tree " + wrong, x.value(wrong, 0), 0);
        }
    }

    private static void promise7LeafOf() {
        TreeScorer x = new TreeScorer();
        x.split(0, 0, 0, 7);
        x.split(0, 0, 1, 3);
        x.split(0, 2, 2, 9);
        DUE.is("7: left left", x.leafOf(0, point(7, 3, 15, 15)), 0);
        DUE.is("7: left right", x.leafOf(0, point(7, 4, 0, 0)), 1);
        DUE.is("7: right left", x.leafOf(0, point(8, 0, 9, 0)), 2);
        DUE.is("7: right right", x.leafOf(0, point(8, 0, 10, 0)), 3);
        DUE.is("7: least point", x.leafOf(0, 0), 0);
        DUE.is("7: greatest point", x.leafOf(0, 65535), 3);
        DUE.is("7: tree of one leaf", x.leafOf(3, 65535), 0);
        for (int wrong : NOT_0_TO_3) {
            DUE.is("7: leafOf tree " + wrong, x.leafOf(wrong, 0), BAD);
        }
        for (int wrong : NOT_A_POINT) {
            DUE.is("7: leafOf point " + wrong, x.leafOf(0, wrong), BAD);
        }
    }

    private static void promise7LeafOfEachFeature() {
        TreeScorer x = new TreeScorer();
        for (int f = 0; f < 4; f++) {
            x.split(f, 0, f, 5 + f);
        }
        for (int f = 0; f < 4; f++) {
            int step = 1 << (4 * f);
            DUE.is("7: feature " + f + " at the limit", x.leafOf(f, (5 + f) * step), 0);
            DUE.is("7: feature " + f + " above the limit", x.leafOf(f, (6 + f) * step), 1);
            DUE.is("7: the others alone, feature " + f, x.leafOf(f, 65535 - 15 * step), 0);
        }
    }

    private static void promise8Score() {
        TreeScorer x = new TreeScorer();
        for (int t = 0; t < 4; t++) {
            x.split(t, 0, t, 7);
            x.setValue(t, 0, 1 << (2 * t));
            x.setValue(t, 1, 2 << (2 * t));
        }
        DUE.is("8: all left", x.score(0), 0x55);
        DUE.is("8: all right", x.score(65535), 0xAA);
        DUE.is("8: mixed", x.score(point(8, 7, 8, 7)), 0x66);
        for (int wrong : NOT_A_POINT) {
            DUE.is("8: score " + wrong, x.score(wrong), 0);
        }
        x.setValue(0, 0, MAX);
        x.setValue(1, 0, MAX);
        x.setValue(2, 0, 3);
        x.setValue(3, 0, 0);
        DUE.is("8: the sum wraps up", x.score(0), 1);
        x.setValue(0, 0, MIN);
        x.setValue(1, 0, -1);
        x.setValue(2, 0, 0);
        DUE.is("8: the sum wraps down", x.score(0), MAX);
    }

    private static void promise9Depth() {
        TreeScorer x = fullTree(0);
        DUE.is("9: first leaf of a chain", x.depth(0), 1);
        DUE.is("9: third leaf of a chain", x.depth(3), 3);
        DUE.is("9: last leaf of a chain", x.depth(15), 7);
        DUE.is("9: last but one leaf of a chain", x.depth(12), 7);
        x.split(3, 0, 3, 15);
        x.split(3, 0, 3, 15);
        DUE.is("9: forks that part nothing count too", x.depth(15), 9);
        x.split(3, 2, 0, 0);
        DUE.is("9: forks aside do not count", x.depth(15), 9);
        for (int wrong : NOT_A_POINT) {
            DUE.is("9: depth " + wrong, x.depth(wrong), BAD);
        }
        TreeScorer most = new TreeScorer();
        for (int t = 0; t < 4; t++) {
            for (int n = 0; n < 7; n++) {
                most.split(t, 0, t, 7);
            }
        }
        DUE.is("9: the most forks", most.depth(0), 28);
        DUE.is("9: one fork a tree", most.depth(65535), 4);
    }

    private static void promise10LeavesAlong() {
        TreeScorer x = new TreeScorer();
        x.split(2, 0, 0, 14);
        x.split(2, 0, 1, 3);
        x.split(2, 0, 0, 0);
        DUE.is("10: along 0, feature 1 low", x.leavesAlong(2, point(5, 3, 0, 0), 0), 0b1011);
        DUE.is("10: along 0, feature 1 high", x.leavesAlong(2, point(5, 4, 0, 0), 0), 0b1100);
        DUE.is("10: along 1, feature 0 least", x.leavesAlong(2, point(0, 9, 0, 0), 1), 0b0101);
        DUE.is("10: along 1, feature 0 middle", x.leavesAlong(2, point(1, 9, 0, 0), 1), 0b0110);
        DUE.is("10: along 1, feature 0 greatest", x.leavesAlong(2, point(15, 9, 0, 0), 1), 0b1000);
        DUE.is("10: along 2", x.leavesAlong(2, 65535, 2), 0b1000);
        DUE.is("10: along 3", x.leavesAlong(2, 0, 3), 0b0001);
        DUE.is("10: one leaf", x.leavesAlong(0, 0, 0), 1);
        for (int wrong : NOT_0_TO_3) {
            DUE.is("10: tree " + wrong, x.leavesAlong(wrong, 0, 0), 0);
            DUE.is("10: feature " + wrong, x.leavesAlong(2, 0, wrong), 0);
        }
        for (int wrong : NOT_A_POINT) {
            DUE.is("10: point " + wrong, x.leavesAlong(2, wrong, 0), 0);
        }
    }

    private static void promise11BestValue() {
        TreeScorer x = new TreeScorer();
        x.split(0, 0, 3, 4);
        x.split(1, 0, 3, 9);
        x.setValue(0, 1, 5);
        x.setValue(1, 0, 2);
        DUE.is("11: the least of the best", x.bestValue(65535, 3), 5);
        DUE.is("11: a feature that no fork asks about", x.bestValue(65535, 0), 0);
        x.setValue(0, 0, -10);
        x.setValue(0, 1, -5);
        x.setValue(1, 0, -7);
        x.setValue(1, 1, -6);
        DUE.is("11: all scores negative", x.bestValue(0, 3), 10);
        x.setValue(0, 0, MIN);
        x.setValue(0, 1, MIN);
        x.setValue(1, 0, 0);
        x.setValue(1, 1, 0);
        DUE.is("11: all scores the least int", x.bestValue(4096 * 7, 3), 0);
        x.setValue(0, 1, MAX);
        x.setValue(1, 0, 1);
        DUE.is("11: the score wraps before it is compared", x.bestValue(0, 3), 10);
        x.clear(0);
        x.clear(1);
        x.split(2, 0, 1, 14);
        x.setValue(2, 1, 1);
        DUE.is("11: the greatest value", x.bestValue(0, 1), 15);
        x.split(2, 1, 2, 7);
        x.setValue(2, 1, -1);
        DUE.is("11: the others are as they are, low", x.bestValue(point(0, 15, 7, 0), 1), 0);
        x.setValue(2, 2, 1);
        DUE.is("11: the others are as they are, high", x.bestValue(point(0, 0, 8, 0), 1), 15);
        for (int wrong : NOT_0_TO_3) {
            DUE.is("11: feature " + wrong, x.bestValue(0, wrong), BAD);
        }
        for (int wrong : NOT_A_POINT) {
            DUE.is("11: point " + wrong, x.bestValue(wrong, 0), BAD);
        }
    }

    /** Two trees that let one value of the feature alone stand out, for each value of each feature. */
    private static void promise11BestValueEach() {
        for (int f = 0; f < 4; f++) {
            for (int x = 0; x < 16; x++) {
                TreeScorer scorer = new TreeScorer();
                scorer.split(3, 0, f, x);
                scorer.setValue(3, 0, 2);
                if (x > 0) {
                    scorer.split(1, 0, f, x - 1);
                    scorer.setValue(1, 1, 1);
                }
                DUE.is("11: only " + x + " of feature " + f, scorer.bestValue(54321, f), x);
            }
        }
    }

    private static void promise12Reachable() {
        TreeScorer x = fullTree(3);
        DUE.is("12: all eight", x.reachable(3), 255);
        x.split(0, 0, 0, 15);
        DUE.is("12: nothing is above 15", x.reachable(0), 1);
        x.split(0, 1, 1, 7);
        DUE.is("12: nothing below an empty part", x.reachable(0), 1);
        x.split(0, 0, 2, 7);
        DUE.is("12: the empty leaves have moved up", x.reachable(0), 3);
        x.split(1, 0, 2, 5);
        x.split(1, 0, 2, 5);
        DUE.is("12: the same question again", x.reachable(1), 0b101);
        x.split(1, 2, 2, 5);
        DUE.is("12: the same question on the right", x.reachable(1), 0b1001);
        x.split(2, 0, 1, 5);
        x.split(2, 1, 1, 6);
        DUE.is("12: one value is enough", x.reachable(2), 0b111);
        for (int wrong : NOT_0_TO_3) {
            DUE.is("12: reachable " + wrong, x.reachable(wrong), 0);
        }
    }

    private static void promise13Range() {
        TreeScorer x = new TreeScorer();
        x.split(1, 0, 2, 10);
        x.split(1, 0, 2, 3);
        x.split(1, 1, 0, 6);
        int[][] least = {{0, 0, 0, 0}, {0, 0, 4, 0}, {7, 0, 4, 0}, {0, 0, 11, 0}};
        int[][] greatest = {{15, 15, 3, 15}, {6, 15, 10, 15}, {15, 15, 10, 15}, {15, 15, 15, 15}};
        for (int i = 0; i < 4; i++) {
            for (int f = 0; f < 4; f++) {
                DUE.is("13: least " + i + " " + f, x.range(1, i, f, 0), least[i][f]);
                DUE.is("13: greatest " + i + " " + f, x.range(1, i, f, 1), greatest[i][f]);
            }
        }
        x.split(1, 3, 2, 5);
        for (int f = 0; f < 4; f++) {
            DUE.is("13: no point, least " + f, x.range(1, 3, f, 0), BAD);
            DUE.is("13: no point, greatest " + f, x.range(1, 3, f, 1), BAD);
        }
        DUE.is("13: a limit below the box leaves it as it was", x.range(1, 4, 2, 0), 11);
        for (int wrong : NOT_0_TO_3) {
            DUE.is("13: tree " + wrong, x.range(wrong, 0, 0, 0), BAD);
            DUE.is("13: feature " + wrong, x.range(1, 0, wrong, 0), BAD);
        }
        for (int wrong : new int[] {-1, 5, 8, MIN, MAX}) {
            DUE.is("13: leaf " + wrong, x.range(1, wrong, 0, 0), BAD);
        }
        for (int wrong : new int[] {-1, 2, 3, MIN, MAX}) {
            DUE.is("13: what " + wrong, x.range(1, 0, 0, wrong), BAD);
        }
    }

    private static void promise14Asks() {
        TreeScorer x = new TreeScorer();
        x.split(0, 0, 0, 15);
        x.split(0, 1, 0, 3);
        x.split(1, 0, 0, 3);
        x.split(2, 0, 3, 3);
        x.split(3, 0, 3, 3);
        x.split(3, 0, 2, 3);
        int[] want = {3, 0, 1, 2};
        for (int f = 0; f < 4; f++) {
            DUE.is("14: asks " + f, x.asks(f), want[f]);
        }
        x.clear(0);
        DUE.is("14: asks after a clear", x.asks(0), 1);
        for (int wrong : NOT_0_TO_3) {
            DUE.is("14: asks " + wrong, x.asks(wrong), BAD);
        }
        TreeScorer most = new TreeScorer();
        for (int t = 0; t < 4; t++) {
            for (int n = 0; n < 8; n++) {
                most.split(t, 0, 1, n);
            }
        }
        DUE.is("14: the most forks", most.asks(1), 28);
    }

    private static void promise15OrderAndLimits() {
        TreeScorer x = fullTree(0);
        DUE.is("15: full tree, good arguments", x.split(0, 7, 3, 15), FULL);
        DUE.is("15: full tree, leaf 8", x.split(0, 8, 0, 0), BAD);
        DUE.is("15: full tree, leaf -1", x.split(0, -1, 0, 0), BAD);
        DUE.is("15: full tree, feature 4", x.split(0, 0, 4, 0), BAD);
        DUE.is("15: full tree, feature -1", x.split(0, 0, -1, 0), BAD);
        DUE.is("15: full tree, limit 16", x.split(0, 0, 0, 16), BAD);
        DUE.is("15: full tree, limit -1", x.split(0, 0, 0, -1), BAD);
        x.setValue(0, 7, 3);
        x.setValue(3, 0, 4);
        for (int wrong : NOT_0_TO_3) {
            DUE.is("15: clear " + wrong, x.clear(wrong), false);
        }
        DUE.is("15: a false clear keeps the leaves", x.leaves(0), 8);
        DUE.is("15: a false clear keeps the values", x.score(65535), 7);
        DUE.is("15: a false clear keeps the forks", x.asks(0), 7);
    }
}
