/** Examples for each promise of the document, worked out by hand. */
public final class PromisesTest {
    public static void main(String[] args) {
        newObject();
        add();
        remove();
        bars();
        free();
        rank();
        frame();
        rigidAndFreedom();
        held();
        redundant();
        ring();
        heldTo();
        bodies();
        doublyHeld();
        orderAndLimits();
        manyCalls();
        Check.end();
    }

    private static void newObject() {
        int[] asked = {Integer.MIN_VALUE, -1, 0, 1, 2, 3, 4, 5, 6, 7, 100, Integer.MAX_VALUE};
        int[] joints = {2, 2, 2, 2, 2, 3, 4, 5, 6, 6, 6, 6};
        for (int i = 0; i < asked.length; i++) {
            String what = "1 new(" + asked[i] + ") ";
            PebbleFrame x = new PebbleFrame(asked[i]);
            Check.due(what + "bars", x.bars(), 0);
            Check.due(what + "frame", x.frame(), 0);
            Check.due(what + "rank", x.rank(-1), 0);
            Check.due(what + "free", x.free(-1), true);
            Check.due(what + "freedom", x.freedom(), 2 * joints[i] - 3);
            Check.due(what + "no joint beyond", x.add(0, joints[i]), PebbleFrame.NONE);
            Check.due(what + "last joint", x.add(0, joints[i] - 1), 0);
        }
        PebbleFrame one = new PebbleFrame(3);
        PebbleFrame other = new PebbleFrame(3);
        one.add(0, 1);
        Check.due("1 objects do not share bars", other.bars(), 0);
    }

    private static void add() {
        Check.due("2 NONE", PebbleFrame.NONE, -1);
        Check.due("2 FULL", PebbleFrame.FULL, -2);
        PebbleFrame x = new PebbleFrame(4);
        Check.due("2 first", x.add(0, 1), 0);
        Check.due("2 same joints again", x.add(0, 1), 1);
        Check.due("2 same joints turned round", x.add(1, 0), 2);
        Check.due("2 other joints", x.add(3, 2), 3);
        Check.due("2 a = b", x.add(2, 2), PebbleFrame.NONE);
        for (int j : Frames.noJoint(4)) {
            Check.due("2 a = " + j, x.add(j, 0), PebbleFrame.NONE);
            Check.due("2 b = " + j, x.add(0, j), PebbleFrame.NONE);
            Check.due("2 both " + j, x.add(j, j), PebbleFrame.NONE);
        }
        Check.due("2 NONE adds nothing", x.bars(), 0b1111);
        x.remove(2);
        x.remove(0);
        Check.due("2 least gap", x.add(1, 2), 0);
        Check.due("2 next gap", x.add(1, 3), 2);
        Check.due("2 no gap left", x.add(0, 3), 4);
        for (int k = 5; k < 12; k++) {
            Check.due("2 up to twelve", x.add(0, 3), k);
        }
        Check.due("2 thirteenth", x.add(0, 3), PebbleFrame.FULL);
        Check.due("2 thirteenth adds nothing", x.bars(), 0xFFF);
        x.remove(11);
        Check.due("2 room again", x.add(0, 2), 11);

        PebbleFrame joins = Frames.triangle(3);
        joins.remove(0);
        joins.add(1, 2);
        Check.due("2 a number used again has its new joints", joins.frame(), 0b101);
    }

    private static void remove() {
        PebbleFrame x = Frames.triangle(4);
        Check.due("3 none yet", x.remove(3), false);
        for (int k : Frames.NO_BAR) {
            Check.due("3 remove(" + k + ")", x.remove(k), false);
        }
        Check.due("3 false changes nothing", x.bars(), 0b111);
        Check.due("3 there", x.remove(1), true);
        Check.due("3 gone", x.bars(), 0b101);
        Check.due("3 twice", x.remove(1), false);
        Check.due("3 still gone", x.bars(), 0b101);
        Check.due("3 rank falls", x.rank(-1), 2);
        PebbleFrame full = Frames.twelve();
        Check.due("3 the last number", full.remove(11), true);
        Check.due("3 the last number gone", full.bars(), 0x7FF);
    }

    private static void bars() {
        PebbleFrame x = new PebbleFrame(2);
        int all = 0;
        for (int k = 0; k < 12; k++) {
            x.add(0, 1);
            all |= 1 << k;
            Check.due("4 up to " + k, x.bars(), all);
        }
        x.remove(0);
        x.remove(7);
        Check.due("4 with gaps", x.bars(), 0xF7E);
        PebbleFrame extra = Frames.twelve();
        Check.due("4 bars that are too many count too", extra.bars(), 0xFFF);
    }

    private static void free() {
        PebbleFrame x = Frames.allPairs(4, 4);
        Check.due("5 the empty set", x.free(0), true);
        Check.due("5 one bar", x.free(0b100000), true);
        Check.due("5 five of six", x.free(0b011111), true);
        Check.due("5 other five of six", x.free(0b111110), true);
        Check.due("5 six on four joints", x.free(0b111111), false);
        Check.due("5 bits of no bar", x.free(~0b100000), true);
        Check.due("5 every bit", x.free(-1), false);
        Check.due("5 bits of no bar alone", x.free(0xFFFFFFC0), true);
        x.remove(2);
        Check.due("5 a bar taken away does not matter", x.free(0b111111), true);

        PebbleFrame twins = new PebbleFrame(6);
        twins.add(4, 5);
        twins.add(5, 4);
        Check.due("5 two bars on two joints", twins.free(0b11), false);
        Check.due("5 either alone", twins.free(0b01) && twins.free(0b10), true);

        PebbleFrame k33 = Frames.threeToThree();
        Check.due("5 nine bars on six joints", k33.free(0x1FF), true);
        k33.add(0, 1);
        Check.due("5 ten bars on six joints", k33.free(0x3FF), false);

        // Few bars for six joints, but too many for the four they lie on.
        PebbleFrame crowded = new PebbleFrame(6);
        for (int a = 2; a < 6; a++) {
            for (int b = a + 1; b < 6; b++) {
                crowded.add(a, b);
            }
        }
        Check.due("5 a crowded part", crowded.free(0b111111), false);
    }

    private static void rank() {
        PebbleFrame x = Frames.allPairs(4, 4);
        Check.due("6 nothing", x.rank(0), 0);
        Check.due("6 free set", x.rank(0b10101), 3);
        Check.due("6 five", x.rank(0b111110), 5);
        Check.due("6 six on four joints", x.rank(0b111111), 5);
        Check.due("6 other bits", x.rank(-1), 5);
        Check.due("6 other bits alone", x.rank(0xFFFFFFC0), 0);
        Check.due("6 the highest bit", x.rank(Integer.MIN_VALUE | 1), 1);
        x.remove(2);
        Check.due("6 without a bar", x.rank(0b111111), 5);
        Check.due("6 only the bar that is gone", x.rank(0b000100), 0);

        PebbleFrame twins = new PebbleFrame(3);
        twins.add(0, 1);
        twins.add(0, 1);
        twins.add(1, 2);
        Check.due("6 twins count once", twins.rank(0b111), 2);
        Check.due("6 twins alone", twins.rank(0b011), 1);
        Check.due("6 twelve bars", Frames.twelve().rank(0xFFF), 9);
    }

    private static void frame() {
        Check.due("7 all of a free set", Frames.threeToThree().frame(), 0x1FF);
        PebbleFrame x = Frames.allPairs(4, 4);
        Check.due("7 the last is left out", x.frame(), 0b011111);
        x.remove(1);
        Check.due("7 with a gap", x.frame(), 0b111101);
        x.add(3, 0);
        Check.due("7 the gap filled by a twin of 2, so 2 is left out", x.frame(), 0b111011);

        PebbleFrame twins = new PebbleFrame(3);
        twins.add(0, 1);
        twins.add(1, 0);
        twins.add(1, 2);
        twins.add(0, 1);
        Check.due("7 the first of the twins", twins.frame(), 0b0101);
        twins.remove(0);
        Check.due("7 the next twin when the first is gone", twins.frame(), 0b0110);
        twins.remove(1);
        Check.due("7 the last twin", twins.frame(), 0b1100);
        Check.due("7 last number in the frame", Frames.lastBarNeeded().frame(), 0b100000000001);
    }

    private static void rigidAndFreedom() {
        PebbleFrame x = new PebbleFrame(4);
        int[][] pairs = {{0, 1}, {0, 2}, {0, 3}, {1, 2}, {1, 3}, {2, 3}};
        int[] freedom = {4, 3, 2, 1, 0, 0};
        Check.due("9 no bars", x.freedom(), 5);
        Check.due("8 no bars", x.rigid(), false);
        for (int k = 0; k < 6; k++) {
            x.add(pairs[k][0], pairs[k][1]);
            Check.due("9 after " + (k + 1), x.freedom(), freedom[k]);
            Check.due("8 after " + (k + 1), x.rigid(), k >= 4);
        }

        PebbleFrame two = new PebbleFrame(2);
        Check.due("8 two joints, no bar", two.rigid(), false);
        two.add(1, 0);
        Check.due("8 two joints, one bar", two.rigid(), true);
        Check.due("9 two joints, one bar", two.freedom(), 0);

        PebbleFrame crowded = new PebbleFrame(5);
        for (int k = 0; k < 12; k++) {
            crowded.add(k % 3, (k + 1) % 3);
        }
        Check.due("8 many bars in one place", crowded.rigid(), false);
        Check.due("9 many bars in one place", crowded.freedom(), 4);
        Check.due("8 three to three", Frames.threeToThree().rigid(), true);
    }

    private static void held() {
        PebbleFrame x = new PebbleFrame(4);
        Check.due("10 no bars", x.held(0, 1), false);
        x.add(0, 1);
        x.add(1, 2);
        Check.due("10 joined", x.held(0, 1), true);
        Check.due("10 joined, turned round", x.held(1, 0), true);
        Check.due("10 open triangle", x.held(0, 2), false);
        x.add(0, 2);
        x.add(1, 3);
        Check.due("10 three joints, one dangling", x.held(0, 3), false);
        x.add(2, 3);
        Check.due("10 across two triangles", x.held(0, 3), true);
        Check.due("10 a = b", x.held(2, 2), false);
        for (int j : Frames.noJoint(4)) {
            Check.due("10 a = " + j, x.held(j, 0), false);
            Check.due("10 b = " + j, x.held(0, j), false);
            Check.due("10 both " + j, x.held(j, j), false);
        }
        Check.due("10 asking adds no bar", x.bars(), 0b11111);

        PebbleFrame full = Frames.lastBarNeeded();
        Check.due("10 full, and the next would raise the rank", full.held(0, 2), false);
        Check.due("10 full, and the next would not", full.held(1, 2), true);
        Check.due("10 full, still twelve", full.bars(), 0xFFF);
    }

    private static void redundant() {
        PebbleFrame x = Frames.allPairs(4, 4);
        for (int k = 0; k < 6; k++) {
            Check.due("11 any one of six: " + k, x.redundant(k), true);
        }
        Check.due("11 no such bar yet", x.redundant(6), false);
        for (int k : Frames.NO_BAR) {
            Check.due("11 redundant(" + k + ")", x.redundant(k), false);
        }
        Check.due("11 asking takes nothing away", x.bars(), 0b111111);
        x.remove(3);
        Check.due("11 bar taken away", x.redundant(3), false);
        for (int k = 0; k < 6; k++) {
            Check.due("11 none of five: " + k, x.redundant(k), false);
        }

        PebbleFrame full = Frames.lastBarNeeded();
        Check.due("11 twin", full.redundant(0), true);
        Check.due("11 the needed last bar", full.redundant(11), false);
    }

    private static void ring() {
        PebbleFrame x = Frames.allPairs(4, 4);
        Check.due("12 six on four joints", x.ring(5), 0b111111);
        for (int k = 0; k < 5; k++) {
            Check.due("12 bar of the frame: " + k, x.ring(k), 0);
        }
        Check.due("12 no such bar yet", x.ring(6), 0);
        for (int k : Frames.NO_BAR) {
            Check.due("12 ring(" + k + ")", x.ring(k), 0);
        }
        x.remove(5);
        Check.due("12 bar taken away", x.ring(5), 0);

        PebbleFrame twins = Frames.triangle(4);
        twins.add(2, 1);
        twins.add(2, 3);
        twins.add(1, 2);
        Check.due("12 only the twin, not the rest", twins.ring(3), 0b001010);
        Check.due("12 not another bar outside the frame", twins.ring(5), 0b100010);
        Check.due("12 dangling bar", twins.ring(4), 0);
        twins.remove(1);
        Check.due("12 the twin is now in the frame", twins.ring(3), 0);
        Check.due("12 with a gap", twins.ring(5), 0b101000);
    }

    private static void heldTo() {
        PebbleFrame x = new PebbleFrame(5);
        for (int a = 0; a < 5; a++) {
            Check.due("13 no bars, itself alone: " + a, x.heldTo(a), 1 << a);
        }
        x.add(0, 1);
        x.add(1, 2);
        Check.due("13 end of a chain", x.heldTo(0), 0b00011);
        Check.due("13 middle of a chain", x.heldTo(1), 0b00111);
        x.add(2, 0);
        x.add(2, 3);
        x.add(1, 3);
        Check.due("13 two triangles", x.heldTo(3), 0b01111);
        Check.due("13 loose joint", x.heldTo(4), 0b10000);
        for (int j : Frames.noJoint(5)) {
            Check.due("13 heldTo(" + j + ")", x.heldTo(j), 0);
        }
        PebbleFrame six = new PebbleFrame(6);
        Check.due("13 joint 5 of six", six.heldTo(5), 0b100000);
    }

    private static void bodies() {
        PebbleFrame x = new PebbleFrame(6);
        Check.due("14 no bars", x.bodies(), 0);
        x.add(0, 1);
        Check.due("14 two joints are not enough", x.bodies(), 0);
        x.add(1, 2);
        Check.due("14 open triangle", x.bodies(), 0);
        x.add(0, 2);
        Check.due("14 one triangle", x.bodies(), 1);
        x.add(2, 3);
        x.add(3, 4);
        x.add(2, 4);
        Check.due("14 two triangles with a common joint", x.bodies(), 2);
        x.add(4, 5);
        x.add(5, 0);
        Check.due("14 a chain between them", x.bodies(), 2);
        x.add(1, 3);
        Check.due("14 all one", x.bodies(), 1);

        PebbleFrame apart = Frames.triangle(6);
        apart.add(3, 4);
        apart.add(4, 5);
        apart.add(5, 3);
        Check.due("14 two triangles apart", apart.bodies(), 2);

        PebbleFrame hinged = Frames.triangle(6);
        hinged.add(2, 3);
        hinged.add(3, 4);
        hinged.add(4, 2);
        hinged.add(4, 5);
        hinged.add(5, 0);
        hinged.add(4, 0);
        Check.due("14 three triangles hinged in a ring are one body", hinged.bodies(), 1);

        PebbleFrame two = new PebbleFrame(2);
        two.add(0, 1);
        Check.due("14 two joints held", two.bodies(), 0);
        Check.due("14 three to three", Frames.threeToThree().bodies(), 1);
    }

    private static void doublyHeld() {
        Check.due("15 no bars", new PebbleFrame(2).doublyHeld(), false);
        PebbleFrame two = new PebbleFrame(2);
        two.add(0, 1);
        Check.due("15 rigid, the only bar not redundant", two.doublyHeld(), false);
        two.add(0, 1);
        Check.due("15 two on two joints", two.doublyHeld(), true);

        Check.due("15 all six on four joints", Frames.allPairs(4, 4).doublyHeld(), true);
        PebbleFrame loose = Frames.allPairs(4, 5);
        Check.due("15 all redundant but not rigid", loose.doublyHeld(), false);
        loose.add(4, 0);
        loose.add(4, 1);
        Check.due("15 rigid, two bars not redundant", loose.rigid() && !loose.doublyHeld(), true);
        loose.add(4, 2);
        Check.due("15 the fifth joint doubly held too", loose.doublyHeld(), true);

        PebbleFrame lastOnly = Frames.triangle(3);
        lastOnly.remove(2);
        lastOnly.add(0, 1);
        lastOnly.add(1, 2);
        lastOnly.add(2, 0);
        Check.due("15 only the last bar is not redundant", lastOnly.rigid() && !lastOnly.doublyHeld(), true);
    }

    private static void orderAndLimits() {
        PebbleFrame x = Frames.twelve();
        Check.due("16 full and a = b", x.add(1, 1), PebbleFrame.NONE);
        Check.due("16 full and a no joint", x.add(-1, 1), PebbleFrame.NONE);
        Check.due("16 full and b no joint", x.add(1, 6), PebbleFrame.NONE);
        Check.due("16 full", x.add(1, 2), PebbleFrame.FULL);
        Check.due("16 refused adds change nothing", Frames.answers(x), Frames.answers(Frames.twelve()));

        PebbleFrame some = Frames.triangle(4);
        some.remove(1);
        some.add(0, 4);
        some.add(3, 3);
        some.remove(1);
        some.remove(5);
        Check.due("16 refused calls leave the bars", some.bars(), 0b101);
        Check.due("16 refused calls leave the rank", some.rank(-1), 2);
        Check.due("16 the next number is the same", some.add(2, 3), 1);
    }

    /** An object serves 512 calls. */
    private static void manyCalls() {
        PebbleFrame x = Frames.triangle(3);
        for (int call = 3; call < 511; call += 2) {
            Check.due("add in call " + call, x.add(0, 1), 3);
            Check.due("remove in call " + call, x.remove(3), true);
        }
        Check.due("last call", x.frame(), 0b111);
    }
}
