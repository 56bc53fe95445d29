import java.util.function.Consumer;
import java.util.function.Supplier;

/** Each sentence of the document that names a boundary case, with the answers worked out by hand. */
public final class BoundariesTest {
    private static final int NONE = PebbleFrame.NONE;
    private static final int FULL = PebbleFrame.FULL;
    private static final int LEAST = Integer.MIN_VALUE;
    private static final int GREATEST = Integer.MAX_VALUE;

    public static void main(String[] args) {
        newJointsTooFew();
        newJointsTooMany();
        newJointsBetween();
        addFirstBar();
        addTakesLeastNumber();
        addOfNoJoint();
        addOfOneJointTwice();
        addAtTheLimit();
        addSeveralBetweenTwoJoints();
        removeWhatIsNotThere();
        removeAtTheEnds();
        barsNoneAndAll();
        freeAndRankOfNothing();
        freeAndRankOtherBits();
        freeAndRankOfBarsTakenAway();
        freeAtEachLimit();
        rankOfAllTwelve();
        frameNoneAndAll();
        frameWithANumberTakenAgain();
        rigidAndFreedomStepByStep();
        rigidNeedsRankNotBars();
        heldOfNoPair();
        heldWithTwelveBars();
        heldAtTheEdges();
        redundantOfNoBar();
        redundantAtTheEdges();
        ringOfAnyOtherBar();
        ringLeastAndGreatest();
        heldToOfNoJoint();
        heldToItself();
        bodiesNone();
        bodiesOfTwoJoints();
        bodiesAllOne();
        bodiesSharingAJoint();
        bodiesWithinALargerOne();
        doublyHeldNoBars();
        doublyHeldJustRigid();
        doublyHeldWithMore();
        doublyHeldNotRigid();
        orderOfTests();
        refusedCallsChangeNothing();
        questionsChangeNothing();
        objectsAreApart();
        lastOf512Calls();
        allOf512CallsChangeSomething();
        all512CallsRefused();
        Check.end();
    }

    // Promise 1: clamped to 2 .. 6; no bars.

    private static void newJointsTooFew() {
        for (int asked : new int[] {2, 1, 0, -1, -2, -6, LEAST + 1, LEAST}) {
            isNew("1 new(" + asked + ")", () -> new PebbleFrame(asked), 2);
        }
    }

    private static void newJointsTooMany() {
        for (int asked : new int[] {6, 7, 8, 12, 32, 34, GREATEST - 1, GREATEST}) {
            isNew("1 new(" + asked + ")", () -> new PebbleFrame(asked), 6);
        }
    }

    private static void newJointsBetween() {
        for (int asked = 3; asked <= 5; asked++) {
            int joints = asked;
            isNew("1 new(" + joints + ")", () -> new PebbleFrame(joints), joints);
        }
    }

    private static void isNew(String what, Supplier<PebbleFrame> make, int joints) {
        PebbleFrame x = make.get();
        Check.due(what + " bars", x.bars(), 0);
        Check.due(what + " frame", x.frame(), 0);
        Check.due(what + " rank", x.rank(-1), 0);
        Check.due(what + " free", x.free(-1), true);
        Check.due(what + " rigid", x.rigid(), false);
        Check.due(what + " freedom", x.freedom(), 2 * joints - 3);
        Check.due(what + " bodies", x.bodies(), 0);
        Check.due(what + " doublyHeld", x.doublyHeld(), false);
        for (int k = 0; k < 12; k++) {
            Check.due(what + " redundant " + k, x.redundant(k), false);
            Check.due(what + " ring " + k, x.ring(k), 0);
            Check.due(what + " remove " + k, x.remove(k), false);
        }
        for (int a = 0; a < 8; a++) {
            Check.due(what + " heldTo " + a, x.heldTo(a), a < joints ? 1 << a : 0);
        }
        Check.due(what + " one beyond the last joint", x.add(0, joints), NONE);
        Check.due(what + " the last joint", x.add(joints - 1, 0), 0);
    }

    // Promise 2: the least number that no bar has; NONE; FULL.

    private static void addFirstBar() {
        for (int joints = 2; joints <= 6; joints++) {
            for (int a = 0; a < joints; a++) {
                for (int b = 0; b < joints; b++) {
                    if (a != b) {
                        firstBarBetween(joints, a, b);
                    }
                }
            }
        }
    }

    private static void firstBarBetween(int joints, int a, int b) {
        String what = "2 first of " + joints + " joints, " + a + " " + b;
        PebbleFrame x = new PebbleFrame(joints);
        Check.due(what, x.add(a, b), 0);
        Check.due(what + " bars", x.bars(), 1);
        Check.due(what + " heldTo a", x.heldTo(a), 1 << a | 1 << b);
        Check.due(what + " heldTo b", x.heldTo(b), 1 << a | 1 << b);
    }

    private static void addTakesLeastNumber() {
        PebbleFrame middle = Frames.copies(4, 5);
        middle.remove(2);
        Check.due("2 came free in the middle", middle.add(2, 3), 2);
        Check.due("2 then the next after all", middle.add(2, 3), 5);

        PebbleFrame only = Frames.copies(4, 1);
        only.remove(0);
        Check.due("2 the only bar came free", only.add(2, 3), 0);

        PebbleFrame first = Frames.twelve();
        first.remove(0);
        Check.due("2 came free at 0", first.add(2, 3), 0);
        Check.due("2 and is taken", first.add(2, 3), FULL);

        PebbleFrame last = Frames.twelve();
        last.remove(11);
        Check.due("2 came free at 11", last.add(2, 3), 11);
        Check.due("2 and is taken too", last.add(2, 3), FULL);

        takesLeastOfThree(new int[] {0, 5, 11});
        takesLeastOfThree(new int[] {11, 5, 0});
        takesLeastOfThree(new int[] {5, 11, 0});

        PebbleFrame emptied = Frames.twelve();
        for (int k = 11; k >= 0; k--) {
            emptied.remove(k);
        }
        for (int k = 0; k < 12; k++) {
            Check.due("2 all came free", emptied.add(2, 3), k);
        }
        Check.due("2 all taken again", emptied.add(2, 3), FULL);
    }

    private static void takesLeastOfThree(int[] removed) {
        PebbleFrame x = Frames.twelve();
        for (int k : removed) {
            x.remove(k);
        }
        Check.due("2 least of three", x.add(4, 5), 0);
        Check.due("2 next of three", x.add(4, 5), 5);
        Check.due("2 last of three", x.add(4, 5), 11);
        Check.due("2 after three", x.add(4, 5), FULL);
    }

    private static void addOfNoJoint() {
        for (int joints = 2; joints <= 6; joints++) {
            PebbleFrame x = new PebbleFrame(joints);
            for (int j : Frames.noJoint(joints)) {
                String what = "2 " + joints + " joints, no joint " + j;
                Check.due(what + " as a", x.add(j, 0), NONE);
                Check.due(what + " as a, the last as b", x.add(j, joints - 1), NONE);
                Check.due(what + " as b", x.add(0, j), NONE);
                Check.due(what + " as b, the last as a", x.add(joints - 1, j), NONE);
                Check.due(what + " as both", x.add(j, j), NONE);
            }
            Check.due("2 both no joints", x.add(-1, joints), NONE);
            Check.due("2 both far", x.add(LEAST, GREATEST), NONE);
            Check.due("2 nothing added", x.bars(), 0);
            Check.due("2 no number used up", x.add(0, 1), 0);
        }
    }

    private static void addOfOneJointTwice() {
        for (int joints = 2; joints <= 6; joints++) {
            PebbleFrame x = new PebbleFrame(joints);
            for (int a = 0; a < joints; a++) {
                Check.due("2 a = b = " + a, x.add(a, a), NONE);
            }
            Check.due("2 a = b adds nothing", x.bars(), 0);
        }
    }

    private static void addAtTheLimit() {
        for (int joints = 2; joints <= 6; joints++) {
            String what = "2 " + joints + " joints, ";
            PebbleFrame x = Frames.copies(joints, 11);
            Check.due(what + "eleven there", x.bars(), 0x7FF);
            Check.due(what + "a refused one takes no place", x.add(0, 0), NONE);
            Check.due(what + "the twelfth", x.add(1, 0), 11);
            Check.due(what + "the thirteenth", x.add(0, 1), FULL);
            Check.due(what + "the thirteenth again", x.add(joints - 1, 0), FULL);
            Check.due(what + "twelve there", x.bars(), 0xFFF);
            Check.due(what + "none to take away", x.remove(12), false);
            Check.due(what + "so still full", x.add(0, 1), FULL);
            Check.due(what + "one of twelve away", x.remove(6), true);
            Check.due(what + "room for one", x.add(0, 1), 6);
            Check.due(what + "and no more", x.add(0, 1), FULL);
        }
    }

    // Terms: two joints may be joined by several bars.

    private static void addSeveralBetweenTwoJoints() {
        PebbleFrame x = new PebbleFrame(2);
        for (int k = 0; k < 12; k++) {
            Check.due("2 several between two joints", x.add(k % 2, 1 - k % 2), k);
        }
        Check.due("2 each is a bar of its own", x.bars(), 0xFFF);
        for (int k = 0; k < 11; k++) {
            Check.due("3 each goes by itself", x.remove(k), true);
            Check.due("3 and leaves the others", x.bars(), 0xFFF & -1 << k + 1);
            Check.due("8 which still hold", x.rigid(), true);
        }
    }

    // Promise 3: false, changing nothing, when there is none.

    private static void removeWhatIsNotThere() {
        for (int k : Frames.NO_BAR) {
            changesNothing("3 remove(" + k + ")", x -> Check.due("3 remove(" + k + ")", x.remove(k), false));
        }
        PebbleFrame x = Frames.triangle(4);
        for (int k = 3; k < 12; k++) {
            Check.due("3 never used: " + k, x.remove(k), false);
        }
        Check.due("3 never used, nothing gone", x.bars(), 0b111);
        for (int k = 0; k < 3; k++) {
            Check.due("3 there: " + k, x.remove(k), true);
            Check.due("3 already taken away: " + k, x.remove(k), false);
            Check.due("3 the others stay after " + k, x.bars(), 0b111 & -1 << k + 1);
        }
        Check.due("3 taken again", x.add(0, 1), 0);
        Check.due("3 and there again", x.remove(0), true);
        Check.due("3 and away again", x.remove(0), false);
    }

    private static void removeAtTheEnds() {
        PebbleFrame x = Frames.twelve();
        Check.due("3 the last of twelve", x.remove(11), true);
        Check.due("3 without the last", x.bars(), 0x7FF);
        Check.due("3 the first of twelve", x.remove(0), true);
        Check.due("3 without the first", x.bars(), 0x7FE);
        PebbleFrame only = Frames.copies(2, 1);
        Check.due("3 the only one", only.remove(0), true);
        Check.due("3 as new", Frames.answers(only), Frames.answers(new PebbleFrame(2)));
    }

    // Promise 4: no bars; all twelve.

    private static void barsNoneAndAll() {
        for (int joints = 2; joints <= 6; joints++) {
            Check.due("4 no bars", new PebbleFrame(joints).bars(), 0);
            Check.due("4 all twelve", Frames.copies(joints, 12).bars(), 4095);
        }
        for (int kept = 0; kept < 12; kept++) {
            PebbleFrame x = Frames.twelve();
            for (int k = 0; k < 12; k++) {
                if (k != kept) {
                    x.remove(k);
                }
            }
            Check.due("4 only bar " + kept, x.bars(), 1 << kept);
            x.remove(kept);
            Check.due("4 none left", x.bars(), 0);
        }
    }

    // Promises 5 and 6: the bars of the set that are there; other bits do not matter.

    private static void freeAndRankOfNothing() {
        for (int joints = 2; joints <= 6; joints++) {
            PebbleFrame x = new PebbleFrame(joints);
            for (int set : new int[] {0, 1, 0xFFF, 0x1000, -1, -2, LEAST, GREATEST}) {
                freeAndRank("no bars", x, set, true, 0);
            }
            freeAndRank("the empty set of twelve bars", Frames.copies(joints, 12), 0, true, 0);
        }
        // A set of one joint or of none has no limit: else not even the empty set would be free.
        freeAndRank("one bar", Frames.copies(2, 1), 1, true, 1);
    }

    private static void freeAndRankOtherBits() {
        PebbleFrame x = Frames.allPairs(4, 4);
        freeAndRank("below 0, all bars", x, -1, false, 5);
        freeAndRank("below 0, all but bar 0", x, -2, true, 5);
        freeAndRank("below 0, no bar", x, -64, true, 0);
        freeAndRank("the least int", x, LEAST, true, 0);
        freeAndRank("the least int and bar 3", x, LEAST | 8, true, 1);
        freeAndRank("the greatest int", x, GREATEST, false, 5);
        freeAndRank("bars not there alone", x, 0xFC0, true, 0);
        freeAndRank("bars not there and five", x, 0xFC0 | 0b110111, true, 5);
        freeAndRank("bars not there and six", x, 0xFFF, false, 5);

        PebbleFrame full = Frames.twelve();
        freeAndRank("bits above 11 alone", full, 0xFFFFF000, true, 0);
        freeAndRank("bit 12 alone", full, 0x1000, true, 0);
        freeAndRank("bits above 11 and the frame", full, 0xFFFFF1FF, true, 9);
        freeAndRank("bits above 11 and bar 11", full, 0xFFFFF800, true, 1);
        freeAndRank("bits above 11 and all", full, -1, false, 9);
    }

    private static void freeAndRankOfBarsTakenAway() {
        PebbleFrame twins = Frames.copies(3, 2);
        freeAndRank("twins", twins, 0b11, false, 1);
        twins.remove(0);
        freeAndRank("a twin taken away", twins, 0b11, true, 1);
        freeAndRank("the twin taken away alone", twins, 0b01, true, 0);
        twins.add(1, 2);
        freeAndRank("its number taken for other joints", twins, 0b11, true, 2);
    }

    /** For n joints, 2 * n - 3 bars that are free, and one more on the same joints. */
    private static void freeAtEachLimit() {
        PebbleFrame two = Frames.copies(6, 2);
        freeAndRank("two joints, at the limit", two, 0b01, true, 1);
        freeAndRank("two joints, above it", two, 0b11, false, 1);

        PebbleFrame three = Frames.triangle(6);
        three.add(0, 2);
        freeAndRank("three joints, at the limit", three, 0b0111, true, 3);
        freeAndRank("three joints, above it", three, 0b1111, false, 3);

        PebbleFrame four = Frames.allPairs(4, 6);
        freeAndRank("four joints, at the limit", four, 0b011111, true, 5);
        freeAndRank("four joints, above it", four, 0b111111, false, 5);

        // A hub and a rim of four: no smaller set of joints is above its limit.
        PebbleFrame five = Frames.of(6, new int[][] {{4, 0}, {4, 1}, {4, 2}, {4, 3}, {0, 1}, {1, 2}, {2, 3}, {3, 0}});
        freeAndRank("five joints, at the limit", five, 0x7F, true, 7);
        freeAndRank("five joints, above it", five, 0xFF, false, 7);
        freeAndRank("five joints, at the limit without the hub's first", five, 0xFE, true, 7);

        PebbleFrame six = Frames.threeToThree();
        six.add(0, 1);
        freeAndRank("six joints, at the limit", six, 0x1FF, true, 9);
        freeAndRank("six joints, above it", six, 0x3FF, false, 9);
    }

    private static void rankOfAllTwelve() {
        freeAndRank("twelve between two of two joints", Frames.copies(2, 12), 0xFFF, false, 1);
        freeAndRank("twelve between two of six joints", Frames.copies(6, 12), 0xFFF, false, 1);
        freeAndRank("twelve on six joints", Frames.twelve(), 0xFFF, false, 9);
        freeAndRank("twelve on six joints, one short", Frames.twelveNotRigid(), 0xFFF, false, 8);
        for (int joints = 2; joints <= 6; joints++) {
            PebbleFrame x = Frames.justRigid(joints);
            for (int k = 0; k < 12; k++) {
                x.add(0, 1);
            }
            freeAndRank("twelve, rigid, " + joints + " joints", x, 0xFFF, false, 2 * joints - 3);
        }
    }

    private static void freeAndRank(String what, PebbleFrame x, int set, boolean free, int rank) {
        Check.due("5 " + what + ", set " + set, x.free(set), free);
        Check.due("6 " + what + ", set " + set, x.rank(set), rank);
    }

    // Promise 7: in the order of their numbers.

    private static void frameNoneAndAll() {
        for (int joints = 2; joints <= 6; joints++) {
            Check.due("7 no bars", new PebbleFrame(joints).frame(), 0);
            Check.due("7 twelve between two joints", Frames.copies(joints, 12).frame(), 1);
            Check.due("7 just rigid, all of them", Frames.justRigid(joints).frame(), (1 << 2 * joints - 3) - 1);
        }
        Check.due("7 twelve on six joints, the first nine", Frames.twelve().frame(), 0x1FF);
        // Of all pairs of five, the first seven are 01 .. 04, 12, 13, 14; then 05 once.
        Check.due("7 twelve, one short", Frames.twelveNotRigid().frame(), 0b010001111111);
        Check.due("7 the first and the last", Frames.lastBarNeeded().frame(), 0b100000000001);
        PebbleFrame emptied = Frames.copies(2, 1);
        emptied.remove(0);
        Check.due("7 none left", emptied.frame(), 0);
    }

    private static void frameWithANumberTakenAgain() {
        PebbleFrame x = Frames.triangle(3);
        x.add(1, 2);
        Check.due("7 the twin comes too late", x.frame(), 0b0111);
        x.remove(0);
        Check.due("7 the twin is still too late", x.frame(), 0b0110);
        Check.due("7 number 0 is taken again", x.add(2, 1), 0);
        Check.due("7 the newest bar comes first", x.frame(), 0b0101);
        x.add(0, 1);
        Check.due("7 the triangle is whole again", x.frame(), 0b10101);

        PebbleFrame full = Frames.copies(3, 12);
        full.remove(11);
        full.add(1, 2);
        Check.due("7 number 11 is taken again", full.frame(), 0b100000000001);
        full.remove(5);
        full.add(0, 2);
        Check.due("7 number 5 is taken again", full.frame(), 0b100000100001);
        full.remove(0);
        full.add(2, 1);
        Check.due("7 number 0 makes 11 one too many", full.frame(), 0b000000100011);
    }

    // Promises 8 and 9: 2 * joints - 3.

    private static void rigidAndFreedomStepByStep() {
        for (int joints = 2; joints <= 6; joints++) {
            int due = 2 * joints - 3;
            PebbleFrame x = new PebbleFrame(joints);
            for (int bars = 0; bars < due; bars++) {
                rigidAndFreedom(joints + " joints, " + bars + " bars", x, due - bars);
                Frames.addNextOfJustRigid(x, bars);
            }
            for (int bars = due; bars < 12; bars++) {
                rigidAndFreedom(joints + " joints, " + bars + " bars", x, 0);
                x.add(bars % 2, joints - 1 == bars % 2 ? 0 : joints - 1);
            }
            rigidAndFreedom(joints + " joints, twelve bars", x, 0);
        }
        PebbleFrame back = Frames.justRigid(6);
        back.remove(4);
        rigidAndFreedom("one short again", back, 1);
    }

    private static void rigidNeedsRankNotBars() {
        rigidAndFreedom("twelve bars, one short", Frames.twelveNotRigid(), 1);
        rigidAndFreedom("twelve bars on two of six joints", Frames.copies(6, 12), 8);
        rigidAndFreedom("twelve bars on two of three joints", Frames.copies(3, 12), 2);
        rigidAndFreedom("six bars on four of five joints", Frames.allPairs(4, 5), 2);
        PebbleFrame nine = Frames.allPairs(4, 6);
        nine.add(4, 0);
        nine.add(4, 1);
        nine.add(5, 0);
        rigidAndFreedom("nine bars on six joints, one too many in a part", nine, 1);
        rigidAndFreedom("two joints, twelve bars", Frames.copies(2, 12), 0);
    }

    private static void rigidAndFreedom(String what, PebbleFrame x, int freedom) {
        Check.due("8 " + what, x.rigid(), freedom == 0);
        Check.due("9 " + what, x.freedom(), freedom);
    }

    // Promise 10: false when a = b or one is not a joint.

    private static void heldOfNoPair() {
        for (int joints = 2; joints <= 6; joints++) {
            // Where all joints are held to each other, only the limits of the numbers can answer false.
            PebbleFrame x = Frames.justRigid(joints);
            for (int j : Frames.noJoint(joints)) {
                String what = "10 " + joints + " joints, no joint " + j;
                Check.due(what + " as a", x.held(j, 0), false);
                Check.due(what + " as a, the last as b", x.held(j, joints - 1), false);
                Check.due(what + " as b", x.held(0, j), false);
                Check.due(what + " as b, the last as a", x.held(joints - 1, j), false);
                Check.due(what + " as both", x.held(j, j), false);
            }
            Check.due("10 both no joints", x.held(-1, joints), false);
            Check.due("10 both far", x.held(LEAST, GREATEST), false);
            for (int a = 0; a < joints; a++) {
                for (int b = 0; b < joints; b++) {
                    Check.due("10 rigid, " + a + " " + b, x.held(a, b), a != b);
                }
            }
        }
    }

    private static void heldWithTwelveBars() {
        PebbleFrame x = Frames.twelveNotRigid();
        Check.due("10 twelve bars, within a part", x.held(3, 4), true);
        Check.due("10 twelve bars, along the twins", x.held(0, 5), true);
        Check.due("10 twelve bars, to the loose joint", x.held(5, 1), false);
        Check.due("10 twelve bars, to the loose joint again", x.held(4, 5), false);
        Check.due("10 twelve bars, a = b", x.held(3, 3), false);
        Check.due("10 twelve bars, no joint", x.held(3, 6), false);
        Check.due("10 twelve bars, all stay", x.bars(), 0xFFF);
        Check.due("10 twelve bars, rigid, no bar between", Frames.twelve().held(3, 4), true);
        Check.due("10 twelve bars, two joints", Frames.copies(2, 12).held(1, 0), true);
        Check.due("10 twelve bars, past the last one", Frames.lastBarNeeded().held(0, 2), false);
        Check.due("10 twelve bars, along the last one", Frames.lastBarNeeded().held(2, 1), true);
    }

    private static void heldAtTheEdges() {
        for (int joints = 2; joints <= 6; joints++) {
            PebbleFrame x = new PebbleFrame(joints);
            for (int a = 0; a < joints; a++) {
                for (int b = 0; b < joints; b++) {
                    Check.due("10 no bars, " + a + " " + b, x.held(a, b), false);
                }
            }
            x.add(joints - 1, 0);
            Check.due("10 the only bar", x.held(0, joints - 1), true);
            x.remove(0);
            Check.due("10 the only bar is gone", x.held(0, joints - 1), false);
        }
        // Held without a bar between them, and without a triangle anywhere.
        Check.due("10 three to three", Frames.threeToThree().held(4, 5), true);
        PebbleFrame eight = Frames.threeToThree();
        eight.remove(8);
        Check.due("10 three to three without one", eight.held(2, 5), false);
    }

    // Promise 11: false when there is none.

    private static void redundantOfNoBar() {
        PebbleFrame none = new PebbleFrame(6);
        PebbleFrame full = Frames.copies(2, 12);
        for (int k : Frames.NO_BAR) {
            Check.due("11 no bars, " + k, none.redundant(k), false);
            Check.due("11 all twelve redundant, but not " + k, full.redundant(k), false);
        }
        PebbleFrame x = Frames.allPairs(4, 4);
        for (int k = 6; k < 12; k++) {
            Check.due("11 never used: " + k, x.redundant(k), false);
        }
        x.add(0, 1);
        x.remove(6);
        Check.due("11 taken away, the rank is the same", x.redundant(6), false);
        x.remove(0);
        Check.due("11 taken away from among others", x.redundant(0), false);
        // The rank that would stay the same is that of the bars still there.
        PebbleFrame twins = Frames.copies(3, 2);
        twins.add(1, 2);
        twins.remove(2);
        Check.due("11 a needed bar was taken away", twins.redundant(0), true);
    }

    private static void redundantAtTheEdges() {
        PebbleFrame twins = Frames.copies(2, 1);
        Check.due("11 the only bar", twins.redundant(0), false);
        twins.add(0, 1);
        Check.due("11 of the frame, but it has a twin", twins.redundant(0), true);
        Check.due("11 the twin", twins.redundant(1), true);
        twins.remove(0);
        Check.due("11 the twin alone", twins.redundant(1), false);

        for (int k = 0; k < 12; k++) {
            Check.due("11 each of twelve, " + k, Frames.twelve().redundant(k), true);
            Check.due("11 all but the last, " + k, Frames.lastBarNeeded().redundant(k), k < 11);
        }
        for (int k = 0; k < 9; k++) {
            Check.due("11 just rigid, " + k, Frames.justRigid(6).redundant(k), false);
        }
    }

    // Promise 12: 0 for any other k.

    private static void ringOfAnyOtherBar() {
        PebbleFrame none = new PebbleFrame(6);
        PebbleFrame full = Frames.copies(2, 12);
        for (int k : Frames.NO_BAR) {
            Check.due("12 no bars, " + k, none.ring(k), 0);
            Check.due("12 twelve bars, " + k, full.ring(k), 0);
        }
        Check.due("12 the frame's bar", full.ring(0), 0);
        PebbleFrame twelve = Frames.twelve();
        for (int k = 0; k < 9; k++) {
            Check.due("12 a bar of the frame, " + k, twelve.ring(k), 0);
            Check.due("12 just rigid, " + k, Frames.justRigid(6).ring(k), 0);
        }
        PebbleFrame x = Frames.allPairs(4, 4);
        for (int k = 6; k < 12; k++) {
            Check.due("12 never used: " + k, x.ring(k), 0);
        }
        x.remove(5);
        Check.due("12 taken away", x.ring(5), 0);
        Check.due("12 the last bar of the frame", Frames.lastBarNeeded().ring(11), 0);
    }

    private static void ringLeastAndGreatest() {
        PebbleFrame full = Frames.copies(2, 12);
        for (int k = 1; k < 12; k++) {
            Check.due("12 the frame's bar and its twin " + k, full.ring(k), 1 | 1 << k);
        }
        PebbleFrame twelve = Frames.twelve();
        Check.due("12 joints 0 1 2 3 of twelve bars", twelve.ring(9), 0b001001100111);
        Check.due("12 joints 0 1 2 4 of twelve bars", twelve.ring(10), 0b010010101011);
        Check.due("12 joints 0 1 2 5 of twelve bars", twelve.ring(11), 0b100100110011);

        PebbleFrame six = Frames.threeToThree();
        six.add(0, 1);
        Check.due("12 every bar of six joints", six.ring(9), 0x3FF);
        six.remove(0);
        Check.due("12 now of the frame", six.ring(9), 0);
        six.add(3, 0);
        Check.due("12 a number taken again", six.ring(9), 0x3FF);
    }

    // Promise 13: 0 when a is not a joint; and a itself.

    private static void heldToOfNoJoint() {
        for (int joints = 2; joints <= 6; joints++) {
            PebbleFrame none = new PebbleFrame(joints);
            PebbleFrame rigid = Frames.justRigid(joints);
            PebbleFrame full = Frames.copies(joints, 12);
            for (int j : Frames.noJoint(joints)) {
                Check.due("13 " + joints + " joints, no bars, " + j, none.heldTo(j), 0);
                Check.due("13 " + joints + " joints, rigid, " + j, rigid.heldTo(j), 0);
                Check.due("13 " + joints + " joints, twelve bars, " + j, full.heldTo(j), 0);
            }
        }
    }

    private static void heldToItself() {
        for (int joints = 2; joints <= 6; joints++) {
            PebbleFrame none = new PebbleFrame(joints);
            PebbleFrame rigid = Frames.justRigid(joints);
            PebbleFrame full = Frames.copies(joints, 12);
            for (int a = 0; a < joints; a++) {
                Check.due("13 " + joints + " joints, no bars, " + a, none.heldTo(a), 1 << a);
                Check.due("13 " + joints + " joints, rigid, " + a, rigid.heldTo(a), (1 << joints) - 1);
                Check.due("13 " + joints + " joints, twelve bars, " + a, full.heldTo(a), a < 2 ? 0b11 : 1 << a);
            }
        }
        PebbleFrame x = Frames.twelveNotRigid();
        Check.due("13 joint 0 of both parts", x.heldTo(0), 0b111111);
        Check.due("13 joint 4 of one part", x.heldTo(4), 0b011111);
        Check.due("13 joint 5 with joint 0 alone", x.heldTo(5), 0b100001);
    }

    // Promise 14: sets of three or more joints that are subsets of no larger such set.

    private static void bodiesNone() {
        for (int joints = 2; joints <= 6; joints++) {
            Check.due("14 no bars, " + joints + " joints", new PebbleFrame(joints).bodies(), 0);
            Check.due("14 two joints held, of " + joints, Frames.copies(joints, 12).bodies(), 0);
        }
        PebbleFrame round = Frames.of(6, new int[][] {{0, 1}, {1, 2}, {2, 3}, {3, 4}, {4, 5}, {5, 0}});
        Check.due("14 six in a round", round.bodies(), 0);
        PebbleFrame eight = Frames.threeToThree();
        eight.remove(0);
        Check.due("14 three to three without one", eight.bodies(), 0);
        PebbleFrame open = Frames.triangle(3);
        open.remove(1);
        Check.due("14 a triangle without one", open.bodies(), 0);
    }

    private static void bodiesOfTwoJoints() {
        for (int bars = 0; bars <= 12; bars++) {
            Check.due("14 two joints, " + bars + " bars", Frames.copies(2, bars).bodies(), 0);
        }
    }

    private static void bodiesAllOne() {
        for (int joints = 3; joints <= 6; joints++) {
            Check.due("14 just rigid, " + joints + " joints", Frames.justRigid(joints).bodies(), 1);
        }
        Check.due("14 rigid without a triangle", Frames.threeToThree().bodies(), 1);
        Check.due("14 rigid with twelve bars", Frames.twelve().bodies(), 1);
        Check.due("14 all but one joint", Frames.twelveNotRigid().bodies(), 1);
        PebbleFrame last = Frames.of(6, new int[][] {{3, 4}, {4, 5}, {5, 3}});
        Check.due("14 the last three joints", last.bodies(), 1);
    }

    private static void bodiesSharingAJoint() {
        Check.due("14 two triangles share a joint, five joints", Frames.twoTriangles(5).bodies(), 2);
        PebbleFrame x = Frames.twoTriangles(6);
        Check.due("14 two triangles share a joint, six joints", x.bodies(), 2);
        x.add(5, 0);
        x.add(5, 4);
        Check.due("14 two bars more, still two", x.bodies(), 2);
        x.add(1, 3);
        Check.due("14 tied by one bar more, all one", x.bodies(), 1);
        PebbleFrame apart = Frames.of(6, new int[][] {{0, 1}, {1, 2}, {2, 0}, {3, 4}, {4, 5}, {5, 3}});
        Check.due("14 two that share no joint", apart.bodies(), 2);
        apart.add(0, 3);
        apart.add(1, 4);
        Check.due("14 two that share no joint, two bars between", apart.bodies(), 2);
        apart.add(2, 5);
        Check.due("14 two that share no joint, three bars between", apart.bodies(), 1);
    }

    private static void bodiesWithinALargerOne() {
        // Two triangles with a side in common: each is a subset of the four joints.
        PebbleFrame four = Frames.of(4, new int[][] {{0, 1}, {1, 2}, {2, 0}, {1, 3}, {2, 3}});
        Check.due("14 two triangles share a side, four joints", four.bodies(), 1);
        PebbleFrame x = Frames.of(6, new int[][] {{0, 1}, {1, 2}, {2, 0}, {1, 3}, {2, 3}});
        Check.due("14 two triangles share a side, six joints", x.bodies(), 1);
        x.add(3, 4);
        x.add(4, 5);
        x.add(5, 3);
        Check.due("14 four joints, and three that share one with them", x.bodies(), 2);
        x.remove(0);
        Check.due("14 one of the first two triangles open", x.bodies(), 2);
        x.remove(4);
        Check.due("14 both open", x.bodies(), 1);
    }

    // Promise 15: all present bars are redundant and the rank is 2 * joints - 3.

    private static void doublyHeldNoBars() {
        for (int joints = 2; joints <= 6; joints++) {
            Check.due("15 no bars, " + joints + " joints", new PebbleFrame(joints).doublyHeld(), false);
        }
        PebbleFrame emptied = Frames.copies(2, 2);
        emptied.remove(0);
        emptied.remove(1);
        Check.due("15 none left", emptied.doublyHeld(), false);
    }

    private static void doublyHeldJustRigid() {
        for (int joints = 2; joints <= 6; joints++) {
            Check.due("15 just rigid, " + joints + " joints", Frames.justRigid(joints).doublyHeld(), false);
        }
        Check.due("15 three to three", Frames.threeToThree().doublyHeld(), false);
    }

    private static void doublyHeldWithMore() {
        Check.due("15 two joints, two bars", Frames.copies(2, 2).doublyHeld(), true);
        Check.due("15 two joints, twelve bars", Frames.copies(2, 12).doublyHeld(), true);
        Check.due("15 four joints, six bars", Frames.allPairs(4, 4).doublyHeld(), true);
        Check.due("15 five joints, ten bars", Frames.allPairs(5, 5).doublyHeld(), true);
        Check.due("15 six joints, twelve bars", Frames.twelve().doublyHeld(), true);
        PebbleFrame six = Frames.threeToThree();
        six.add(4, 3);
        Check.due("15 six joints, ten bars", six.doublyHeld(), true);
        six.remove(0);
        Check.due("15 six joints, one of ten away", six.rigid() && !six.doublyHeld(), true);

        PebbleFrame three = Frames.triangle(3);
        three.add(0, 1);
        Check.due("15 three joints, one side twice", three.doublyHeld(), false);
        three.add(1, 2);
        Check.due("15 three joints, two sides twice", three.doublyHeld(), false);
        three.add(2, 0);
        Check.due("15 three joints, each side twice", three.doublyHeld(), true);

        for (int needed = 0; needed < 6; needed += 5) {
            onlyOneNeeded(needed);
        }
        PebbleFrame last = Frames.copies(3, 5);
        for (int k = 0; k < 6; k++) {
            last.add(1, 2);
        }
        last.add(0, 2);
        Check.due("15 only bar 11 is needed", last.rigid() && !last.doublyHeld(), true);
    }

    /** A triangle of six bars less one: the bar that has no twin is the only one not redundant. */
    private static void onlyOneNeeded(int needed) {
        PebbleFrame x = Frames.triangle(3);
        x.add(0, 1);
        x.add(1, 2);
        x.add(2, 0);
        x.remove((needed + 3) % 6);
        Check.due("15 only bar " + needed + " is needed", x.rigid() && !x.doublyHeld(), true);
    }

    private static void doublyHeldNotRigid() {
        Check.due("15 two of three joints, two bars", Frames.copies(3, 2).doublyHeld(), false);
        Check.due("15 two of six joints, twelve bars", Frames.copies(6, 12).doublyHeld(), false);
        Check.due("15 four of five joints", Frames.allPairs(4, 5).doublyHeld(), false);
        PebbleFrame x = Frames.twelveNotRigid();
        for (int k = 0; k < 12; k++) {
            Check.due("15 every bar redundant, " + k, x.redundant(k), true);
        }
        Check.due("15 every bar of twelve redundant, rank one short", x.doublyHeld(), false);
    }

    // Promise 16: tested in this order; a call that is refused changes nothing.

    private static void orderOfTests() {
        for (int joints = 2; joints <= 6; joints++) {
            PebbleFrame x = Frames.copies(joints, 12);
            String what = "16 twelve bars, " + joints + " joints, ";
            for (int a = 0; a < joints; a++) {
                Check.due(what + "a = b = " + a, x.add(a, a), NONE);
            }
            for (int j : Frames.noJoint(joints)) {
                Check.due(what + "a = " + j, x.add(j, 1), NONE);
                Check.due(what + "b = " + j, x.add(1, j), NONE);
                Check.due(what + "a = b = " + j, x.add(j, j), NONE);
            }
            Check.due(what + "two joints", x.add(0, joints - 1), FULL);
            Check.due(what + "all stay", x.bars(), 0xFFF);
        }
    }

    private static void refusedCallsChangeNothing() {
        for (int k : Frames.NO_BAR) {
            changesNothing("16 redundant(" + k + ")", x -> x.redundant(k));
            changesNothing("16 ring(" + k + ")", x -> x.ring(k));
        }
        for (int j : Frames.noJoint(6)) {
            changesNothing("16 add(" + j + ", 0)", x -> Check.due("16 add", x.add(j, 0), NONE));
            changesNothing("16 add(1, " + j + ")", x -> Check.due("16 add", x.add(1, j), NONE));
            changesNothing("16 add(" + j + ", " + j + ")", x -> Check.due("16 add", x.add(j, j), NONE));
            changesNothing("16 held(" + j + ", 0)", x -> x.held(j, 0));
            changesNothing("16 held(1, " + j + ")", x -> x.held(1, j));
            changesNothing("16 heldTo(" + j + ")", x -> x.heldTo(j));
        }
        for (int a = 0; a < 6; a++) {
            int joint = a;
            changesNothing("16 add, a = b = " + a, x -> x.add(joint, joint));
            changesNothing("16 held, a = b = " + a, x -> x.held(joint, joint));
        }
        changesNothingIn("16 add to twelve", Frames::twelve, x -> x.add(3, 4));
        changesNothingIn("16 add to twelve, not rigid", Frames::twelveNotRigid, x -> x.add(4, 5));
        changesNothingIn("16 add to twelve, three joints", Frames::lastBarNeeded, x -> x.add(0, 2));
        for (int k : new int[] {1, 4, 6, 11}) {
            changesNothingIn("16 with gaps, remove(" + k + ")", BoundariesTest::withGaps, x -> x.remove(k));
            changesNothingIn("16 with gaps, redundant(" + k + ")", BoundariesTest::withGaps, x -> x.redundant(k));
            changesNothingIn("16 with gaps, ring(" + k + ")", BoundariesTest::withGaps, x -> x.ring(k));
        }
    }

    private static void questionsChangeNothing() {
        PebbleFrame x = Frames.twelve();
        String once = Frames.questions(x);
        Check.due("16 asked twice", Frames.questions(x), once);
        PebbleFrame gaps = withGaps();
        once = Frames.questions(gaps);
        Check.due("16 asked twice, with gaps", Frames.questions(gaps), once);
    }

    /** Nothing is refused by one object because of what another one has. */
    private static void objectsAreApart() {
        PebbleFrame one = Frames.twelve();
        PebbleFrame other = new PebbleFrame(2);
        Check.due("16 another object has room", other.add(0, 1), 0);
        Check.due("16 another object has its own joints", other.add(0, 2), NONE);
        Check.due("16 the first object as before", Frames.answers(one), Frames.answers(Frames.twelve()));
    }

    /** The call must be one that is refused whatever bars are there, of six joints. */
    private static void changesNothing(String what, Consumer<PebbleFrame> call) {
        changesNothingIn(what + ", no bars", () -> new PebbleFrame(6), call);
        changesNothingIn(what + ", gaps", BoundariesTest::withGaps, call);
        changesNothingIn(what + ", twelve bars", Frames::twelve, call);
    }

    private static void changesNothingIn(String what, Supplier<PebbleFrame> make, Consumer<PebbleFrame> call) {
        PebbleFrame called = make.get();
        call.accept(called);
        Check.due(what + " changes nothing", Frames.answers(called), Frames.answers(make.get()));
    }

    /** Bars 0, 2, 3, 5, 7 of six joints; 1, 4 and 6 were taken away, 8 .. 11 never used. */
    private static PebbleFrame withGaps() {
        PebbleFrame x = Frames.of(6, new int[][] {{0, 1}, {4, 5}, {1, 2}, {2, 0}, {0, 3}, {2, 3}, {1, 5}, {0, 1}});
        x.remove(1);
        x.remove(4);
        x.remove(6);
        return x;
    }

    // What it is: an object is used for at most 512 calls.

    private static void lastOf512Calls() {
        PebbleFrame x = Frames.twelve();
        int calls = 12;
        while (calls < 496) {
            // Four calls a turn: a bar goes and comes again, and one call is refused.
            int k = calls / 4 % 9 + 3;
            Check.due("512 remove in call " + calls, x.remove(k), true);
            Check.due("512 gone in call " + calls, x.bars(), 0xFFF & ~(1 << k));
            Check.due("512 add in call " + calls, addAsInTwelve(x, k), k);
            Check.due("512 full in call " + calls, x.add(3, 5), FULL);
            calls += 4;
        }
        Check.due("call 497", x.bars(), 0xFFF);
        Check.due("call 498", x.free(0x1FF), true);
        Check.due("call 499", x.free(0x3FF), false);
        Check.due("call 500", x.rank(-1), 9);
        Check.due("call 501", x.frame(), 0x1FF);
        Check.due("call 502", x.rigid(), true);
        Check.due("call 503", x.freedom(), 0);
        Check.due("call 504", x.held(3, 5), true);
        Check.due("call 505", x.redundant(11), true);
        Check.due("call 506", x.ring(10), 0b010010101011);
        Check.due("call 507", x.heldTo(5), 0b111111);
        Check.due("call 508", x.bodies(), 1);
        Check.due("call 509", x.doublyHeld(), true);
        Check.due("call 510", x.add(0, 1), FULL);
        Check.due("call 511", x.remove(2), true);
        Check.due("call 512", x.add(0, 3), 2);
    }

    private static int addAsInTwelve(PebbleFrame x, int k) {
        int[][] pairs = {{0, 1}, {0, 2}, {0, 3}, {0, 4}, {0, 5}, {1, 2}, {1, 3}, {1, 4}, {1, 5}, {2, 3}, {2, 4}, {2, 5}};
        return x.add(pairs[k][0], pairs[k][1]);
    }

    private static void allOf512CallsChangeSomething() {
        PebbleFrame x = new PebbleFrame(2);
        for (int call = 1; call <= 510; call += 2) {
            Check.due("512 add in call " + call, x.add(0, 1), 0);
            Check.due("512 remove in call " + (call + 1), x.remove(0), true);
        }
        Check.due("call 511 of changes", x.add(1, 0), 0);
        Check.due("call 512 of changes", x.rigid(), true);
    }

    private static void all512CallsRefused() {
        PebbleFrame x = new PebbleFrame(6);
        for (int call = 1; call <= 510; call += 2) {
            Check.due("512 add in call " + call, x.add(call, call), NONE);
            Check.due("512 remove in call " + (call + 1), x.remove(call), false);
        }
        Check.due("call 511 after refused ones", x.add(5, 4), 0);
        Check.due("call 512 after refused ones", x.heldTo(4), 0b110000);
    }
}
