/** Long runs of mixed calls, each answered by the class and by PlainTrees; the two must agree. */
public final class SideBySideTest {
    private static final int RUNS = 60;
    private static final int CALLS = 512;
    private static final Due DUE = new Due();

    private static long state;

    public static void main(String[] args) {
        for (int run = 1; run <= RUNS && !DUE.anyWrong(); run++) {
            state = run;
            oneRun(run);
        }
        DUE.end();
    }

    // A fixed row of numbers: every run of the test makes the same calls.
    private static int pick(int n) {
        state = state * 6364136223846793005L + 1442695040888963407L;
        return (int) ((state >>> 33) % n);
    }

    /** Mostly 0 .. most, now and then just outside it or far away. */
    private static int pickAround(int most) {
        switch (pick(48)) {
            case 0: return -1;
            case 1: return most + 1;
            case 2: return pick(2) == 0 ? Integer.MIN_VALUE : Integer.MAX_VALUE;
            default: return pick(most + 1);
        }
    }

    private static int pickValue() {
        switch (pick(6)) {
            case 0: return Integer.MAX_VALUE - pick(2);
            case 1: return Integer.MIN_VALUE + pick(2);
            default: return pick(9) - 4;
        }
    }

    private static void oneRun(int run) {
        TreeScorer x = new TreeScorer();
        PlainTrees y = new PlainTrees();
        for (int n = 1; n <= CALLS && !DUE.anyWrong(); n++) {
            oneCall("run " + run + " call " + n + " ", x, y);
        }
    }

    private static void oneCall(String where, TreeScorer x, PlainTrees y) {
        int t = pickAround(3);
        int most = t >= 0 && t < 4 ? y.leaves(t) - 1 : 0;
        int i = pickAround(most);
        int f = pickAround(3);
        int limit = pickAround(15);
        int point = pickAround(65535);
        int what = pickAround(1);
        int v = pickValue();
        String with = "(t " + t + ", i " + i + ", f " + f + ", limit " + limit + ", point " + point
            + ", what " + what + ", v " + v + ")";
        switch (pick(40)) {
            case 0: DUE.is(where + "clear" + with, x.clear(t), y.clear(t)); break;
            case 1: DUE.is(where + "reachable" + with, x.reachable(t), y.reachable(t)); break;
            case 2: case 3:
                DUE.is(where + "range" + with, x.range(t, i, f, what), y.range(t, i, f, what)); break;
            case 4: DUE.is(where + "asks" + with, x.asks(f), y.asks(f)); break;
            case 5: DUE.is(where + "leaves" + with, x.leaves(t), y.leaves(t)); break;
            case 6: case 7: DUE.is(where + "value" + with, x.value(t, i), y.value(t, i)); break;
            case 8: case 9: case 10:
                DUE.is(where + "leafOf" + with, x.leafOf(t, point), y.leafOf(t, point)); break;
            case 11: case 12: case 13:
                DUE.is(where + "score" + with, x.score(point), y.score(point)); break;
            case 14: case 15: case 16:
                DUE.is(where + "depth" + with, x.depth(point), y.depth(point)); break;
            case 17: case 18: case 19:
                DUE.is(where + "leavesAlong" + with, x.leavesAlong(t, point, f), y.leavesAlong(t, point, f)); break;
            case 20: case 21: case 22:
                DUE.is(where + "bestValue" + with, x.bestValue(point, f), y.bestValue(point, f)); break;
            case 23: case 24: case 25: case 26: case 27: case 28: case 29:
                DUE.is(where + "setValue" + with, x.setValue(t, i, v), y.setValue(t, i, v)); break;
            default:
                DUE.is(where + "split" + with, x.split(t, i, f, limit), y.split(t, i, f, limit)); break;
        }
    }
}
