import java.util.ArrayList;
import java.util.Arrays;
import java.util.List;

/**
 * Compares long runs of calls with a slow model that follows the words of the document:
 * free by looking at every set of joints, rank by looking at every subset of the bars.
 */
public final class DefinitionsTest {
    private static final int RUNS = 60;
    private static final int STEPS = 30;

    private static int wrong = 0;
    private static long seed = 20261115L;

    public static void main(String[] args) {
        for (int run = 0; run < RUNS; run++) {
            compareRun(run);
        }
        System.out.println(wrong == 0 ? "all runs agree with the definitions" : wrong + " answers are wrong");
        if (wrong != 0) {
            System.exit(1);
        }
    }

    private static void compareRun(int run) {
        int joints = 2 + run % 5;
        PebbleFrame x = new PebbleFrame(joints);
        Model model = new Model(joints);
        List<String> calls = new ArrayList<>();
        // Some runs mostly grow and so reach twelve bars; the others hover and leave gaps.
        int removesInTen = run % 3 == 0 ? 1 : 4;
        for (int step = 0; step < STEPS; step++) {
            if (next(10) < removesInTen) {
                int k = next(14) - 1;
                calls.add("remove(" + k + ")");
                due(calls, "its answer", x.remove(k), model.remove(k));
            } else {
                // Joints just outside are asked for as well, but seldom.
                int a = next(12) == 0 ? -1 : next(joints);
                int b = next(12) == 0 ? joints : next(joints);
                calls.add("add(" + a + ", " + b + ")");
                due(calls, "its answer", x.add(a, b), model.add(a, b));
            }
            // Few enough questions to stay within 512 calls for one object.
            askOnce(x, model, calls);
        }
        askAll(x, model, calls);
    }

    private static void askOnce(PebbleFrame x, Model model, List<String> calls) {
        int set = next(1 << 16) | (next(2) << 31);
        int k = next(13);
        int a = next(model.joints + 1);
        int b = next(model.joints + 1);
        due(calls, "bars()", x.bars(), model.bars());
        due(calls, "free(" + set + ")", x.free(set), model.isFree(set & model.bars()));
        due(calls, "rank(" + set + ")", x.rank(set), model.rankOf(set & model.bars()));
        due(calls, "frame()", x.frame(), model.frame());
        due(calls, "held(" + a + ", " + b + ")", x.held(a, b), model.held(a, b));
        due(calls, "redundant(" + k + ")", x.redundant(k), model.redundant(k));
        due(calls, "ring(" + k + ")", x.ring(k), model.ring(k));
        due(calls, "heldTo(" + a + ")", x.heldTo(a), model.heldTo(a));
        due(calls, "bodies()", x.bodies(), model.bodies());
        due(calls, "freedom()", x.freedom(), model.freedom());
        due(calls, "rigid()", x.rigid(), model.freedom() == 0);
        due(calls, "doublyHeld()", x.doublyHeld(), model.doublyHeld());
    }

    private static void askAll(PebbleFrame x, Model model, List<String> calls) {
        for (int k = 0; k < 12; k++) {
            due(calls, "redundant(" + k + ")", x.redundant(k), model.redundant(k));
            due(calls, "ring(" + k + ")", x.ring(k), model.ring(k));
        }
        for (int a = 0; a < model.joints; a++) {
            due(calls, "heldTo(" + a + ")", x.heldTo(a), model.heldTo(a));
            for (int b = 0; b < model.joints; b++) {
                due(calls, "held(" + a + ", " + b + ")", x.held(a, b), model.held(a, b));
            }
        }
    }

    /** A fixed sequence, so that a failure comes again. */
    private static int next(int bound) {
        seed = seed * 6364136223846793005L + 1442695040888963407L;
        return (int) ((seed >>> 33) % bound);
    }

    private static void due(List<String> calls, String what, Object got, Object want) {
        if (!got.equals(want)) {
            wrong++;
            System.out.println(calls + ": " + what + " answered " + got + ", due is " + want);
        }
    }

    private static final class Model {
        /** One place more than there are bars, for the bar that is only thought of. */
        private static final int THOUGHT = 12;

        private final int joints;
        private final int[] a = new int[13];
        private final int[] b = new int[13];
        private final boolean[] there = new boolean[12];
        private final int[] rankCache = new int[1 << 13];

        Model(int joints) {
            this.joints = joints;
            forget();
        }

        int add(int from, int to) {
            if (from == to || from < 0 || to < 0 || from >= joints || to >= joints) {
                return -1;
            }
            int k = 0;
            while (k < 12 && there[k]) {
                k++;
            }
            if (k == 12) {
                return -2;
            }
            there[k] = true;
            a[k] = from;
            b[k] = to;
            forget();
            return k;
        }

        boolean remove(int k) {
            if (!isThere(k)) {
                return false;
            }
            there[k] = false;
            forget();
            return true;
        }

        int bars() {
            int set = 0;
            for (int k = 0; k < 12; k++) {
                set += there[k] ? 1 << k : 0;
            }
            return set;
        }

        boolean isFree(int set) {
            // From all joints down, as most sets that are not free show it there.
            for (int group = (1 << joints) - 1; group > 0; group--) {
                int n = Integer.bitCount(group);
                int inside = 0;
                for (int k = 0; k <= THOUGHT; k++) {
                    if ((set >> k & 1) == 1 && (group >> a[k] & 1) == 1 && (group >> b[k] & 1) == 1) {
                        inside++;
                    }
                }
                if (n >= 2 && inside > 2 * n - 3) {
                    return false;
                }
            }
            return true;
        }

        int rankOf(int set) {
            if (rankCache[set] < 0) {
                int best = 0;
                for (int part = set; part != 0; part = (part - 1) & set) {
                    if (Integer.bitCount(part) > best && isFree(part)) {
                        best = Integer.bitCount(part);
                    }
                }
                rankCache[set] = best;
            }
            return rankCache[set];
        }

        int frame() {
            int taken = 0;
            for (int k = 0; k < 12; k++) {
                if (there[k] && isFree(taken | 1 << k)) {
                    taken |= 1 << k;
                }
            }
            return taken;
        }

        int freedom() {
            return 2 * joints - 3 - rankOf(bars());
        }

        boolean held(int from, int to) {
            if (from == to || from < 0 || to < 0 || from >= joints || to >= joints) {
                return false;
            }
            int before = rankOf(bars());
            a[THOUGHT] = from;
            b[THOUGHT] = to;
            rankCache[bars() | 1 << THOUGHT] = -1;
            return rankOf(bars() | 1 << THOUGHT) == before;
        }

        boolean redundant(int k) {
            return isThere(k) && rankOf(bars() & ~(1 << k)) == rankOf(bars());
        }

        int ring(int k) {
            int frame = frame();
            if (!isThere(k) || (frame >> k & 1) == 1) {
                return 0;
            }
            int ring = 1 << k;
            for (int f = 0; f < 12; f++) {
                if ((frame >> f & 1) == 1 && isFree((frame & ~(1 << f)) | 1 << k)) {
                    ring |= 1 << f;
                }
            }
            return ring;
        }

        int heldTo(int from) {
            if (from < 0 || from >= joints) {
                return 0;
            }
            int set = 1 << from;
            for (int to = 0; to < joints; to++) {
                set |= held(from, to) ? 1 << to : 0;
            }
            return set;
        }

        int bodies() {
            int[] reach = new int[joints];
            for (int j = 0; j < joints; j++) {
                reach[j] = heldTo(j);
            }
            List<Integer> groups = new ArrayList<>();
            for (int group = 0; group < 1 << joints; group++) {
                if (Integer.bitCount(group) >= 3 && allHeld(group, reach)) {
                    groups.add(group);
                }
            }
            int count = 0;
            for (int group : groups) {
                boolean largest = true;
                for (int other : groups) {
                    largest &= other == group || (group & ~other) != 0;
                }
                count += largest ? 1 : 0;
            }
            return count;
        }

        boolean doublyHeld() {
            boolean all = freedom() == 0;
            for (int k = 0; k < 12; k++) {
                all &= !there[k] || redundant(k);
            }
            return all;
        }

        private boolean allHeld(int group, int[] reach) {
            for (int j = 0; j < joints; j++) {
                if ((group >> j & 1) == 1 && (group & ~reach[j]) != 0) {
                    return false;
                }
            }
            return true;
        }

        private boolean isThere(int k) {
            return k >= 0 && k < 12 && there[k];
        }

        private void forget() {
            Arrays.fill(rankCache, -1);
        }
    }
}
