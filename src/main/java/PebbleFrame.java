/** Says which bars of a flat framework hold it, and which are one too many. */
public final class PebbleFrame {
    public static final int NONE = -1;
    public static final int FULL = -2;

    private static final int LEAST_JOINTS = 2;
    private static final int MOST_JOINTS = 6;
    private static final int MOST_BARS = 12;

    private final int joints;

    /** The two joints of each bar as a set of joints; meaningless for a bar that is not present. */
    private final int[] ends = new int[MOST_BARS];

    private int present;

    public PebbleFrame(int joints) {
        this.joints = clampJoints(joints);
        this.present = 0;
    }

    public int add(int a, int b) {
        if (!isPair(a, b)) {
            return NONE;
        }
        for (int k = 0; k < MOST_BARS; k++) {
            if (!has(present, k)) {
                ends[k] = pairOf(a, b);
                present |= 1 << k;
                return k;
            }
        }
        return FULL;
    }

    public boolean remove(int k) {
        if (!isBar(k)) {
            return false;
        }
        present &= ~(1 << k);
        return true;
    }

    public int bars() {
        return present;
    }

    public boolean free(int set) {
        int there = set & present;
        // Every subset of a free set is free, so the greedy choice leaves a bar out only if the set is not free.
        return frameOf(there) == there;
    }

    public int rank(int set) {
        return rankOf(set & present);
    }

    public int frame() {
        return frameOf(present);
    }

    public boolean rigid() {
        return rankOf(present) == rigidRank();
    }

    public int freedom() {
        return rigidRank() - rankOf(present);
    }

    public boolean held(int a, int b) {
        if (!isPair(a, b)) {
            return false;
        }
        int frame = frameOf(present);
        int pair = pairOf(a, b);
        return !staysFree(frame, pair);
    }

    public boolean redundant(int k) {
        if (!isBar(k)) {
            return false;
        }
        return rankOf(present & ~(1 << k)) == rankOf(present);
    }

    public int ring(int k) {
        int frame = frameOf(present);
        if (!isBar(k) || has(frame, k)) {
            return 0;
        }
        int ring = 1 << k;
        for (int f = 0; f < MOST_BARS; f++) {
            if (has(frame, f) && staysFree(frame & ~(1 << f), ends[k])) {
                ring |= 1 << f;
            }
        }
        return ring;
    }

    public int heldTo(int a) {
        if (!isJoint(a)) {
            return 0;
        }
        int frame = frameOf(present);
        return jointsHeldTo(frame, a);
    }

    public int bodies() {
        int frame = frameOf(present);
        int count = 0;
        for (int group = 0; group < 1 << joints; group++) {
            // Equal means two things: no joint of the group is loose from another one (it would be
            // missing from what is held to all), and no joint outside could be taken in as well.
            if (sizeOf(group) >= 3 && jointsHeldToAll(frame, group) == group) {
                count++;
            }
        }
        return count;
    }

    public boolean doublyHeld() {
        int whole = rankOf(present);
        if (whole != rigidRank()) {
            return false;
        }
        for (int k = 0; k < MOST_BARS; k++) {
            if (has(present, k) && rankOf(present & ~(1 << k)) != whole) {
                return false;
            }
        }
        return true;
    }

    private static int clampJoints(int wanted) {
        if (wanted < LEAST_JOINTS) {
            return LEAST_JOINTS;
        }
        return wanted > MOST_JOINTS ? MOST_JOINTS : wanted;
    }

    private boolean isJoint(int a) {
        return a >= 0 && a < joints;
    }

    private boolean isPair(int a, int b) {
        return a != b && isJoint(a) && isJoint(b);
    }

    private boolean isBar(int k) {
        return k >= 0 && k < MOST_BARS && has(present, k);
    }

    private int rigidRank() {
        return 2 * joints - 3;
    }

    private static int pairOf(int a, int b) {
        return (1 << a) | (1 << b);
    }

    private static boolean has(int set, int member) {
        return (set >> member & 1) == 1;
    }

    private static int sizeOf(int set) {
        int size = 0;
        // Twelve bars are the largest set there is; a set of joints is smaller.
        for (int i = 0; i < MOST_BARS; i++) {
            size += set >> i & 1;
        }
        return size;
    }

    /** Free sets form a matroid, so the greedy choice is also a largest free subset. */
    private int rankOf(int set) {
        int chosen = frameOf(set);
        return sizeOf(chosen);
    }

    private int frameOf(int set) {
        int taken = 0;
        for (int k = 0; k < MOST_BARS; k++) {
            if (has(set, k) && staysFree(taken, ends[k])) {
                taken |= 1 << k;
            }
        }
        return taken;
    }

    /** Expects a free set, so that only the groups with both joints of the new bar can be overfull. */
    private boolean staysFree(int freeSet, int pair) {
        for (int group = 0; group < 1 << joints; group++) {
            if ((group & pair) == pair && barsInside(freeSet, group) + 1 > 2 * sizeOf(group) - 3) {
                return false;
            }
        }
        return true;
    }

    private int barsInside(int set, int group) {
        int count = 0;
        for (int k = 0; k < MOST_BARS; k++) {
            if (has(set, k) && (ends[k] & group) == ends[k]) {
                count++;
            }
        }
        return count;
    }

    /** The frame stands for all present bars: a bar raises the rank just when the frame stays free with it. */
    private int jointsHeldTo(int frame, int a) {
        int found = 1 << a;
        for (int b = 0; b < joints; b++) {
            int pair = pairOf(a, b);
            if (b != a && !staysFree(frame, pair)) {
                found |= 1 << b;
            }
        }
        return found;
    }

    private int jointsHeldToAll(int frame, int group) {
        int common = (1 << joints) - 1;
        for (int a = 0; a < joints; a++) {
            if (has(group, a)) {
                common &= jointsHeldTo(frame, a);
            }
        }
        return common;
    }
}
