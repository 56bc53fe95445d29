/** Frameworks that several tests use, and numbers that are no joint or no bar. */
final class Frames {
    /** Beside the nearest and the farthest ones, those that a shift by 32 would take for 0 .. 11. */
    static final int[] NO_BAR = {-1, 12, 13, 31, 32, 33, 43, 44, -12, -21, -32, -33,
        Integer.MIN_VALUE, Integer.MIN_VALUE + 1, Integer.MAX_VALUE, Integer.MAX_VALUE - 1};

    private Frames() {
    }

    static int[] noJoint(int joints) {
        return new int[] {-1, joints, joints + 1, 31, 32, 33, 31 + joints, 32 + joints, -joints, -31, -32, -33,
            Integer.MIN_VALUE, Integer.MIN_VALUE + 1, Integer.MAX_VALUE, Integer.MAX_VALUE - 1};
    }

    /** Joins the pairs in turn; the numbers are 0 .. pairs.length - 1. */
    static PebbleFrame of(int joints, int[]... pairs) {
        PebbleFrame x = new PebbleFrame(joints);
        for (int[] pair : pairs) {
            x.add(pair[0], pair[1]);
        }
        return x;
    }

    /** Bars 0 .. 2: 01, 12, 20. */
    static PebbleFrame triangle(int joints) {
        return of(joints, new int[][] {{0, 1}, {1, 2}, {2, 0}});
    }

    /** Two triangles with joint 2 in common. Bars 0 .. 5: 01, 12, 20, 23, 34, 42. */
    static PebbleFrame twoTriangles(int joints) {
        return of(joints, new int[][] {{0, 1}, {1, 2}, {2, 0}, {2, 3}, {3, 4}, {4, 2}});
    }

    /** One bar between any two of the first few joints, 2 .. 5 of them. For four: 01, 02, 03, 12, 13, 23. */
    static PebbleFrame allPairs(int few, int joints) {
        PebbleFrame x = new PebbleFrame(joints);
        for (int a = 0; a < few; a++) {
            for (int b = a + 1; b < few; b++) {
                x.add(a, b);
            }
        }
        return x;
    }

    /** Each of 0, 1, 2 to each of 3, 4, 5: nine bars, rigid, none redundant. */
    static PebbleFrame threeToThree() {
        PebbleFrame x = new PebbleFrame(6);
        for (int a = 0; a < 3; a++) {
            for (int b = 3; b < 6; b++) {
                x.add(a, b);
            }
        }
        return x;
    }

    /** Joints 0 and 1, and each further joint held by both: 01, 02, 12, 03, 13, ... Rigid, none redundant. */
    static PebbleFrame justRigid(int joints) {
        PebbleFrame x = new PebbleFrame(joints);
        for (int k = 0; k < 2 * joints - 3; k++) {
            addNextOfJustRigid(x, k);
        }
        return x;
    }

    static void addNextOfJustRigid(PebbleFrame x, int k) {
        if (k == 0) {
            x.add(0, 1);
        } else {
            x.add((k - 1) % 2, (k - 1) / 2 + 2);
        }
    }

    /** Bars 0 .. 10 join 0 and 1, bar 11 joins 1 and 2. */
    static PebbleFrame lastBarNeeded() {
        PebbleFrame x = copies(3, 11);
        x.add(1, 2);
        return x;
    }

    static PebbleFrame copies(int joints, int bars) {
        PebbleFrame x = new PebbleFrame(joints);
        for (int k = 0; k < bars; k++) {
            x.add(0, 1);
        }
        return x;
    }

    /** Twelve bars on six joints, rank 9: 01, 02, 03, 04, 05, 12, 13, 14, 15, 23, 24, 25. */
    static PebbleFrame twelve() {
        PebbleFrame x = new PebbleFrame(6);
        for (int a = 0; a < 3; a++) {
            for (int b = a + 1; b < 6; b++) {
                x.add(a, b);
            }
        }
        return x;
    }

    /** Twelve bars on six joints, rank 8: all pairs of joints 0 .. 4, then 05 twice; every bar redundant. */
    static PebbleFrame twelveNotRigid() {
        PebbleFrame x = allPairs(5, 6);
        x.add(0, 5);
        x.add(0, 5);
        return x;
    }

    /** What an object answers, in one text; the object is of no use afterwards. About 250 calls. */
    static String answers(PebbleFrame x) {
        StringBuilder text = new StringBuilder();
        text.append(questions(x));
        // How it goes on shows the numbers that are free, and whether there is room.
        for (int k = 0; k < 13; k++) {
            text.append(' ').append(x.add(0, 1));
        }
        text.append(' ').append(x.frame());
        for (int k = 0; k < 12; k++) {
            text.append(' ').append(x.remove(k)).append(x.rank(-1));
        }
        return text.append(' ').append(x.bars()).toString();
    }

    /** The same without a call that could change something. About 210 calls. */
    static String questions(PebbleFrame x) {
        StringBuilder text = new StringBuilder();
        text.append(x.bars()).append(' ').append(x.frame()).append(' ').append(x.rigid()).append(' ');
        text.append(x.freedom()).append(' ').append(x.bodies()).append(' ').append(x.doublyHeld());
        for (int k = 0; k < 12; k++) {
            text.append(' ').append(x.redundant(k)).append(' ').append(x.ring(k));
            askOfSet(x, 1 << k, text);
            askOfSet(x, ~(1 << k), text);
            askOfSet(x, (1 << k) - 1, text);
            askOfSet(x, 0b101 << k, text);
        }
        for (int a = 0; a < 6; a++) {
            text.append(' ').append(x.heldTo(a));
            for (int b = 0; b < 6; b++) {
                text.append(' ').append(x.held(a, b));
            }
        }
        return text.toString();
    }

    private static void askOfSet(PebbleFrame x, int set, StringBuilder text) {
        text.append(' ').append(x.free(set)).append(x.rank(set));
    }
}
