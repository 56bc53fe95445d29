/** Examples for each promise of the document, worked out by hand. */
public final class PromisesTest {
    private static final int[] OUTSIDE_BARS = {-1, 12, 13, 31, 32, 33, 64, Integer.MIN_VALUE, Integer.MAX_VALUE};

    private static int wrong = 0;

    public static void main(String[] args) {
        newObject();
        add();
        remove();
        bars();
        free();
        rank();
        frame();
        rigidAndFreedom();
        held();
        redundant();
        ring();
        heldTo();
        bodies();
        doublyHeld();
        orderAndLimits();
        manyCalls();
        System.out.println(wrong == 0 ? "all promises held" : wrong + " answers are wrong");
        if (wrong != 0) {
            System.exit(1);
        }
    }

    private static void newObject() {
        int[] asked = {Integer.MIN_VALUE, -1, 0, 1, 2, 3, 4, 5, 6, 7, 100, Integer.MAX_VALUE};
        int[] joints = {2, 2, 2, 2, 2, 3, 4, 5, 6, 6, 6, 6};
        for (int i = 0; i < asked.length; i++) {
            String what = "1 new(" + asked[i] + ") ";
            PebbleFrame x = new PebbleFrame(asked[i]);
            due(what + "bars", x.bars(), 0);
            due(what + "frame", x.frame(), 0);
            due(what + "rank", x.rank(-1), 0);
            due(what + "free", x.free(-1), true);
            due(what + "freedom", x.freedom(), 2 * joints[i] - 3);
            due(what + "no joint beyond", x.add(0, joints[i]), PebbleFrame.NONE);
            due(what + "last joint", x.add(0, joints[i] - 1), 0);
        }
        PebbleFrame one = new PebbleFrame(3);
        PebbleFrame other = new PebbleFrame(3);
        one.add(0, 1);
        due("1 objects do not share bars", other.bars(), 0);
    }

    private static void add() {
        due("2 NONE", PebbleFrame.NONE, -1);
        due("2 FULL", PebbleFrame.FULL, -2);
        PebbleFrame x = new PebbleFrame(4);
        due("2 first", x.add(0, 1), 0);
        due("2 same joints again", x.add(0, 1), 1);
        due("2 same joints turned round", x.add(1, 0), 2);
        due("2 other joints", x.add(3, 2), 3);
        due("2 a = b", x.add(2, 2), PebbleFrame.NONE);
        int[] noJoint = {-1, 4, 5, 32, 33, Integer.MIN_VALUE, Integer.MAX_VALUE};
        for (int j : noJoint) {
            due("2 a = " + j, x.add(j, 0), PebbleFrame.NONE);
            due("2 b = " + j, x.add(0, j), PebbleFrame.NONE);
            due("2 both " + j, x.add(j, j), PebbleFrame.NONE);
        }
        due("2 NONE adds nothing", x.bars(), 0b1111);
        x.remove(2);
        x.remove(0);
        due("2 least gap", x.add(1, 2), 0);
        due("2 next gap", x.add(1, 3), 2);
        due("2 no gap left", x.add(0, 3), 4);
        for (int k = 5; k < 12; k++) {
            due("2 up to twelve", x.add(0, 3), k);
        }
        due("2 thirteenth", x.add(0, 3), PebbleFrame.FULL);
        due("2 thirteenth adds nothing", x.bars(), 0xFFF);
        x.remove(11);
        due("2 room again", x.add(0, 2), 11);

        PebbleFrame joins = triangle(3);
        joins.remove(0);
        joins.add(1, 2);
        due("2 a number used again has its new joints", joins.frame(), 0b101);
    }

    private static void remove() {
        PebbleFrame x = triangle(4);
        due("3 none yet", x.remove(3), false);
        for (int k : OUTSIDE_BARS) {
            due("3 remove(" + k + ")", x.remove(k), false);
        }
        due("3 false changes nothing", x.bars(), 0b111);
        due("3 there", x.remove(1), true);
        due("3 gone", x.bars(), 0b101);
        due("3 twice", x.remove(1), false);
        due("3 still gone", x.bars(), 0b101);
        due("3 rank falls", x.rank(-1), 2);
        PebbleFrame full = twelve();
        due("3 the last number", full.remove(11), true);
        due("3 the last number gone", full.bars(), 0x7FF);
    }

    private static void bars() {
        PebbleFrame x = new PebbleFrame(2);
        int all = 0;
        for (int k = 0; k < 12; k++) {
            x.add(0, 1);
            all |= 1 << k;
            due("4 up to " + k, x.bars(), all);
        }
        x.remove(0);
        x.remove(7);
        due("4 with gaps", x.bars(), 0xF7E);
        PebbleFrame extra = twelve();
        due("4 bars that are too many count too", extra.bars(), 0xFFF);
    }

    private static void free() {
        PebbleFrame x = allPairsOfFour();
        due("5 the empty set", x.free(0), true);
        due("5 one bar", x.free(0b100000), true);
        due("5 five of six", x.free(0b011111), true);
        due("5 other five of six", x.free(0b111110), true);
        due("5 six on four joints", x.free(0b111111), false);
        due("5 bits of no bar", x.free(~0b100000), true);
        due("5 every bit", x.free(-1), false);
        due("5 bits of no bar alone", x.free(0xFFFFFFC0), true);
        x.remove(2);
        due("5 a bar taken away does not matter", x.free(0b111111), true);

        PebbleFrame twins = new PebbleFrame(6);
        twins.add(4, 5);
        twins.add(5, 4);
        due("5 two bars on two joints", twins.free(0b11), false);
        due("5 either alone", twins.free(0b01) && twins.free(0b10), true);

        PebbleFrame k33 = threeToThree();
        due("5 nine bars on six joints", k33.free(0x1FF), true);
        k33.add(0, 1);
        due("5 ten bars on six joints", k33.free(0x3FF), false);

        // Few bars for six joints, but too many for the four they lie on.
        PebbleFrame crowded = new PebbleFrame(6);
        for (int a = 2; a < 6; a++) {
            for (int b = a + 1; b < 6; b++) {
                crowded.add(a, b);
            }
        }
        due("5 a crowded part", crowded.free(0b111111), false);
    }

    private static void rank() {
        PebbleFrame x = allPairsOfFour();
        due("6 nothing", x.rank(0), 0);
        due("6 free set", x.rank(0b10101), 3);
        due("6 five", x.rank(0b111110), 5);
        due("6 six on four joints", x.rank(0b111111), 5);
        due("6 other bits", x.rank(-1), 5);
        due("6 other bits alone", x.rank(0xFFFFFFC0), 0);
        due("6 the highest bit", x.rank(Integer.MIN_VALUE | 1), 1);
        x.remove(2);
        due("6 without a bar", x.rank(0b111111), 5);
        due("6 only the bar that is gone", x.rank(0b000100), 0);

        PebbleFrame twins = new PebbleFrame(3);
        twins.add(0, 1);
        twins.add(0, 1);
        twins.add(1, 2);
        due("6 twins count once", twins.rank(0b111), 2);
        due("6 twins alone", twins.rank(0b011), 1);
        due("6 twelve bars", twelve().rank(0xFFF), 9);
    }

    private static void frame() {
        due("7 all of a free set", threeToThree().frame(), 0x1FF);
        PebbleFrame x = allPairsOfFour();
        due("7 the last is left out", x.frame(), 0b011111);
        x.remove(1);
        due("7 with a gap", x.frame(), 0b111101);
        x.add(3, 0);
        due("7 the gap filled by a twin of 2, so 2 is left out", x.frame(), 0b111011);

        PebbleFrame twins = new PebbleFrame(3);
        twins.add(0, 1);
        twins.add(1, 0);
        twins.add(1, 2);
        twins.add(0, 1);
        due("7 the first of the twins", twins.frame(), 0b0101);
        twins.remove(0);
        due("7 the next twin when the first is gone", twins.frame(), 0b0110);
        twins.remove(1);
        due("7 the last twin", twins.frame(), 0b1100);
        due("7 last number in the frame", lastBarNeeded().frame(), 0b100000000001);
    }

    private static void rigidAndFreedom() {
        PebbleFrame x = new PebbleFrame(4);
        int[][] pairs = {{0, 1}, {0, 2}, {0, 3}, {1, 2}, {1, 3}, {2, 3}};
        int[] freedom = {4, 3, 2, 1, 0, 0};
        due("9 no bars", x.freedom(), 5);
        due("8 no bars", x.rigid(), false);
        for (int k = 0; k < 6; k++) {
            x.add(pairs[k][0], pairs[k][1]);
            due("9 after " + (k + 1), x.freedom(), freedom[k]);
            due("8 after " + (k + 1), x.rigid(), k >= 4);
        }

        PebbleFrame two = new PebbleFrame(2);
        due("8 two joints, no bar", two.rigid(), false);
        two.add(1, 0);
        due("8 two joints, one bar", two.rigid(), true);
        due("9 two joints, one bar", two.freedom(), 0);

        PebbleFrame crowded = new PebbleFrame(5);
        for (int k = 0; k < 12; k++) {
            crowded.add(k % 3, (k + 1) % 3);
        }
        due("8 many bars in one place", crowded.rigid(), false);
        due("9 many bars in one place", crowded.freedom(), 4);
        due("8 three to three", threeToThree().rigid(), true);
    }

    private static void held() {
        PebbleFrame x = new PebbleFrame(4);
        due("10 no bars", x.held(0, 1), false);
        x.add(0, 1);
        x.add(1, 2);
        due("10 joined", x.held(0, 1), true);
        due("10 joined, turned round", x.held(1, 0), true);
        due("10 open triangle", x.held(0, 2), false);
        x.add(0, 2);
        x.add(1, 3);
        due("10 three joints, one dangling", x.held(0, 3), false);
        x.add(2, 3);
        due("10 across two triangles", x.held(0, 3), true);
        due("10 a = b", x.held(2, 2), false);
        int[] noJoint = {-1, 4, 32, 35, Integer.MIN_VALUE, Integer.MAX_VALUE};
        for (int j : noJoint) {
            due("10 a = " + j, x.held(j, 0), false);
            due("10 b = " + j, x.held(0, j), false);
            due("10 both " + j, x.held(j, j), false);
        }
        due("10 asking adds no bar", x.bars(), 0b11111);

        PebbleFrame full = lastBarNeeded();
        due("10 full, and the next would raise the rank", full.held(0, 2), false);
        due("10 full, and the next would not", full.held(1, 2), true);
        due("10 full, still twelve", full.bars(), 0xFFF);
    }

    private static void redundant() {
        PebbleFrame x = allPairsOfFour();
        for (int k = 0; k < 6; k++) {
            due("11 any one of six: " + k, x.redundant(k), true);
        }
        due("11 no such bar yet", x.redundant(6), false);
        for (int k : OUTSIDE_BARS) {
            due("11 redundant(" + k + ")", x.redundant(k), false);
        }
        due("11 asking takes nothing away", x.bars(), 0b111111);
        x.remove(3);
        due("11 bar taken away", x.redundant(3), false);
        for (int k = 0; k < 6; k++) {
            due("11 none of five: " + k, x.redundant(k), false);
        }

        PebbleFrame full = lastBarNeeded();
        due("11 twin", full.redundant(0), true);
        due("11 the needed last bar", full.redundant(11), false);
    }

    private static void ring() {
        PebbleFrame x = allPairsOfFour();
        due("12 six on four joints", x.ring(5), 0b111111);
        for (int k = 0; k < 5; k++) {
            due("12 bar of the frame: " + k, x.ring(k), 0);
        }
        due("12 no such bar yet", x.ring(6), 0);
        for (int k : OUTSIDE_BARS) {
            due("12 ring(" + k + ")", x.ring(k), 0);
        }
        x.remove(5);
        due("12 bar taken away", x.ring(5), 0);

        PebbleFrame twins = triangle(4);
        twins.add(2, 1);
        twins.add(2, 3);
        twins.add(1, 2);
        due("12 only the twin, not the rest", twins.ring(3), 0b001010);
        due("12 not another bar outside the frame", twins.ring(5), 0b100010);
        due("12 dangling bar", twins.ring(4), 0);
        twins.remove(1);
        due("12 the twin is now in the frame", twins.ring(3), 0);
        due("12 with a gap", twins.ring(5), 0b101000);
    }

    private static void heldTo() {
        PebbleFrame x = new PebbleFrame(5);
        for (int a = 0; a < 5; a++) {
            due("13 no bars, itself alone: " + a, x.heldTo(a), 1 << a);
        }
        x.add(0, 1);
        x.add(1, 2);
        due("13 end of a chain", x.heldTo(0), 0b00011);
        due("13 middle of a chain", x.heldTo(1), 0b00111);
        x.add(2, 0);
        x.add(2, 3);
        x.add(1, 3);
        due("13 two triangles", x.heldTo(3), 0b01111);
        due("13 loose joint", x.heldTo(4), 0b10000);
        int[] noJoint = {-1, 5, 6, 32, 36, Integer.MIN_VALUE, Integer.MAX_VALUE};
        for (int j : noJoint) {
            due("13 heldTo(" + j + ")", x.heldTo(j), 0);
        }
        PebbleFrame six = new PebbleFrame(6);
        due("13 joint 5 of six", six.heldTo(5), 0b100000);
    }

    private static void bodies() {
        PebbleFrame x = new PebbleFrame(6);
        due("14 no bars", x.bodies(), 0);
        x.add(0, 1);
        due("14 two joints are not enough", x.bodies(), 0);
        x.add(1, 2);
        due("14 open triangle", x.bodies(), 0);
        x.add(0, 2);
        due("14 one triangle", x.bodies(), 1);
        x.add(2, 3);
        x.add(3, 4);
        x.add(2, 4);
        due("14 two triangles with a common joint", x.bodies(), 2);
        x.add(4, 5);
        x.add(5, 0);
        due("14 a chain between them", x.bodies(), 2);
        x.add(1, 3);
        due("14 all one", x.bodies(), 1);

        PebbleFrame apart = triangle(6);
        apart.add(3, 4);
        apart.add(4, 5);
        apart.add(5, 3);
        due("14 two triangles apart", apart.bodies(), 2);

        PebbleFrame hinged = triangle(6);
        hinged.add(2, 3);
        hinged.add(3, 4);
        hinged.add(4, 2);
        hinged.add(4, 5);
        hinged.add(5, 0);
        hinged.add(4, 0);
        due("14 three triangles hinged in a ring are one body", hinged.bodies(), 1);

        PebbleFrame two = new PebbleFrame(2);
        two.add(0, 1);
        due("14 two joints held", two.bodies(), 0);
        due("14 three to three", threeToThree().bodies(), 1);
    }

    private static void doublyHeld() {
        due("15 no bars", new PebbleFrame(2).doublyHeld(), false);
        PebbleFrame two = new PebbleFrame(2);
        two.add(0, 1);
        due("15 rigid, the only bar not redundant", two.doublyHeld(), false);
        two.add(0, 1);
        due("15 two on two joints", two.doublyHeld(), true);

        due("15 all six on four joints", allPairsOfFour().doublyHeld(), true);
        PebbleFrame loose = new PebbleFrame(5);
        for (int a = 0; a < 4; a++) {
            for (int b = a + 1; b < 4; b++) {
                loose.add(a, b);
            }
        }
        due("15 all redundant but not rigid", loose.doublyHeld(), false);
        loose.add(4, 0);
        loose.add(4, 1);
        due("15 rigid, two bars not redundant", loose.rigid() && !loose.doublyHeld(), true);
        loose.add(4, 2);
        due("15 the fifth joint doubly held too", loose.doublyHeld(), true);

        PebbleFrame lastOnly = triangle(3);
        lastOnly.remove(2);
        lastOnly.add(0, 1);
        lastOnly.add(1, 2);
        lastOnly.add(2, 0);
        due("15 only the last bar is not redundant", lastOnly.rigid() && !lastOnly.doublyHeld(), true);
    }

    private static void orderAndLimits() {
        PebbleFrame x = twelve();
        String before = all(x);
        due("16 full and a = b", x.add(1, 1), PebbleFrame.NONE);
        due("16 full and a no joint", x.add(-1, 1), PebbleFrame.NONE);
        due("16 full and b no joint", x.add(1, 6), PebbleFrame.NONE);
        due("16 full", x.add(1, 2), PebbleFrame.FULL);
        due("16 refused adds change nothing", all(x), before);
        for (int k : OUTSIDE_BARS) {
            x.remove(k);
            x.redundant(k);
            x.ring(k);
            x.heldTo(k);
            x.held(k, 0);
            x.held(0, k);
        }
        due("16 refused calls change nothing", all(x), before);

        PebbleFrame some = triangle(4);
        some.remove(1);
        before = all(some);
        some.add(0, 4);
        some.add(3, 3);
        some.remove(1);
        some.remove(5);
        due("16 refused calls change nothing with a gap", all(some), before);
        due("16 the next number is the same", some.add(2, 3), 1);
    }

    /** An object serves 512 calls. */
    private static void manyCalls() {
        PebbleFrame x = triangle(3);
        for (int call = 3; call < 511; call += 2) {
            due("add in call " + call, x.add(0, 1), 3);
            due("remove in call " + call, x.remove(3), true);
        }
        due("last call", x.frame(), 0b111);
    }

    private static PebbleFrame triangle(int joints) {
        PebbleFrame x = new PebbleFrame(joints);
        x.add(0, 1);
        x.add(1, 2);
        x.add(2, 0);
        return x;
    }

    /** Bars 0 .. 5: 01, 02, 03, 12, 13, 23. */
    private static PebbleFrame allPairsOfFour() {
        PebbleFrame x = new PebbleFrame(4);
        for (int a = 0; a < 4; a++) {
            for (int b = a + 1; b < 4; b++) {
                x.add(a, b);
            }
        }
        return x;
    }

    private static PebbleFrame threeToThree() {
        PebbleFrame x = new PebbleFrame(6);
        for (int a = 0; a < 3; a++) {
            for (int b = 3; b < 6; b++) {
                x.add(a, b);
            }
        }
        return x;
    }

    private static PebbleFrame twelve() {
        PebbleFrame x = threeToThree();
        x.add(0, 1);
        x.add(1, 2);
        x.add(3, 4);
        return x;
    }

    /** Bars 0 .. 10 join 0 and 1, bar 11 joins 1 and 2. */
    private static PebbleFrame lastBarNeeded() {
        PebbleFrame x = new PebbleFrame(3);
        for (int k = 0; k < 11; k++) {
            x.add(0, 1);
        }
        x.add(1, 2);
        return x;
    }

    /** Everything that can be asked of an object, in one text. */
    private static String all(PebbleFrame x) {
        StringBuilder text = new StringBuilder();
        text.append(x.bars()).append(' ').append(x.frame()).append(' ').append(x.rank(-1)).append(' ');
        text.append(x.free(-1)).append(x.rigid()).append(x.freedom()).append(x.doublyHeld()).append(x.bodies());
        for (int k = 0; k < 12; k++) {
            text.append(' ').append(x.redundant(k)).append(x.ring(k));
        }
        for (int a = 0; a < 6; a++) {
            text.append(' ').append(x.heldTo(a));
        }
        return text.toString();
    }

    private static void due(String what, Object got, Object want) {
        if (!got.equals(want)) {
            wrong++;
            System.out.println(what + ": answered " + got + ", due is " + want);
        }
    }
}
