import java.util.function.Consumer;
import java.util.function.Supplier;

/** The sentences of the document that explain one call by others, each on many frameworks. */
public final class TermsTest {
    /** Far below the 512 calls that an object is used for, with those that make it. */
    private static final int CALLS_OF_ONE = 400;

    public static void main(String[] args) {
        onMany(TermsTest::frameHasAsManyBarsAsTheRank);
        onMany(TermsTest::frameByGoingThrough);
        onMany(TermsTest::rankOfLargestFreeSubsets);
        onMany(TermsTest::rigidAndFreedomByRank);
        onMany(TermsTest::heldByAdding);
        onMany(TermsTest::redundantByRemoving);
        onMany(TermsTest::ringByFree);
        onMany(TermsTest::heldToByHeld);
        onMany(TermsTest::bodiesByHeld);
        onMany(TermsTest::doublyHeldByRedundantAndRigid);
        onMany(TermsTest::endsOfABarHaveNoOrder);
        onMany(TermsTest::sameCallsSameAnswers);
        Check.end();
    }

    /** How a framework is made: bar k joins pair start + k * step of the joints, and each third may be taken away. */
    private record Plan(int joints, int bars, int start, int step, boolean gaps, boolean turned)
            implements Supplier<PebbleFrame> {
        @Override
        public PebbleFrame get() {
            int pairs = joints * (joints - 1) / 2;
            PebbleFrame x = new PebbleFrame(joints);
            for (int k = 0; k < bars; k++) {
                addPair(x, (start + k * step) % pairs);
            }
            for (int k = start % 3; gaps && k < bars; k += 3) {
                x.remove(k);
            }
            return x;
        }

        private void addPair(PebbleFrame x, int pair) {
            int left = pair;
            int a = 0;
            while (left >= joints - 1 - a) {
                left -= joints - 1 - a;
                a++;
            }
            int b = a + 1 + left;
            x.add(turned ? b : a, turned ? a : b);
        }

        Plan turnedRound() {
            return new Plan(joints, bars, start, step, gaps, !turned);
        }
    }

    private static void onMany(Consumer<Plan> sentence) {
        for (int joints = 2; joints <= 6; joints++) {
            for (int bars = 0; bars <= 12; bars++) {
                for (int step = 1; step <= 4; step++) {
                    sentence.accept(new Plan(joints, bars, bars + step, step, false, false));
                    sentence.accept(new Plan(joints, bars, bars, step, true, false));
                }
            }
        }
    }

    // Terms.

    private static void frameHasAsManyBarsAsTheRank(Plan plan) {
        PebbleFrame x = plan.get();
        Check.due("7 bars of the frame, " + plan, Integer.bitCount(x.frame()), x.rank(x.bars()));
    }

    private static void frameByGoingThrough(Plan plan) {
        PebbleFrame x = plan.get();
        int taken = 0;
        for (int k = 0; k < 12; k++) {
            if (has(x.bars(), k) && x.free(taken | 1 << k)) {
                taken |= 1 << k;
            }
        }
        Check.due("7 " + plan, x.frame(), taken);
    }

    private static void rankOfLargestFreeSubsets(Plan plan) {
        PebbleFrame x = plan.get();
        int bars = x.bars();
        int[] largest = new int[bars + 1];
        int calls = 0;
        for (int set = 0; set <= bars; set++) {
            if ((set & ~bars) != 0) {
                continue;
            }
            if (calls >= CALLS_OF_ONE) {
                x = plan.get();
                calls = 0;
            }
            calls += 2;
            largest[set] = x.free(set) ? Integer.bitCount(set) : largestWithoutOne(largest, set);
            Check.due("6 rank(" + set + "), " + plan, x.rank(set), largest[set]);
        }
    }

    private static int largestWithoutOne(int[] largest, int set) {
        int most = 0;
        for (int k = 0; k < 12; k++) {
            if (has(set, k)) {
                most = Math.max(most, largest[set & ~(1 << k)]);
            }
        }
        return most;
    }

    // Promises 8 and 9.

    private static void rigidAndFreedomByRank(Plan plan) {
        PebbleFrame x = plan.get();
        int rank = x.rank(x.bars());
        Check.due("8 " + plan, x.rigid(), rank == 2 * plan.joints() - 3);
        Check.due("9 " + plan, x.freedom(), 2 * plan.joints() - 3 - rank);
    }

    // Promise 10. With twelve bars there is no room to add: DefinitionsTest and BoundariesTest look at that.

    private static void heldByAdding(Plan plan) {
        PebbleFrame x = plan.get();
        int rank = x.rank(-1);
        for (int a = 0; a < plan.joints(); a++) {
            for (int b = 0; b < plan.joints(); b++) {
                boolean held = x.held(a, b);
                int added = x.add(a, b);
                if (added >= 0) {
                    Check.due("10 held(" + a + ", " + b + "), " + plan, held, x.rank(-1) == rank);
                    x.remove(added);
                }
            }
        }
    }

    // Promise 11.

    private static void redundantByRemoving(Plan plan) {
        for (int k = 0; k < 12; k++) {
            PebbleFrame x = plan.get();
            int rank = x.rank(-1);
            boolean redundant = x.redundant(k);
            boolean there = x.remove(k);
            Check.due("11 redundant(" + k + "), " + plan, redundant, there && x.rank(-1) == rank);
        }
    }

    // Promise 12.

    private static void ringByFree(Plan plan) {
        PebbleFrame x = plan.get();
        int frame = x.frame();
        for (int k = 0; k < 12; k++) {
            int due = 0;
            if (has(x.bars() & ~frame, k)) {
                due = 1 << k;
                for (int f = 0; f < 12; f++) {
                    if (has(frame, f) && x.free(frame & ~(1 << f) | 1 << k)) {
                        due |= 1 << f;
                    }
                }
            }
            Check.due("12 ring(" + k + "), " + plan, x.ring(k), due);
        }
    }

    // Promises 13 and 14.

    private static void heldToByHeld(Plan plan) {
        PebbleFrame x = plan.get();
        for (int a = 0; a < plan.joints(); a++) {
            int due = 1 << a;
            for (int b = 0; b < plan.joints(); b++) {
                due |= x.held(a, b) ? 1 << b : 0;
            }
            Check.due("13 heldTo(" + a + "), " + plan, x.heldTo(a), due);
        }
    }

    private static void bodiesByHeld(Plan plan) {
        PebbleFrame x = plan.get();
        boolean[][] held = new boolean[plan.joints()][plan.joints()];
        for (int a = 0; a < plan.joints(); a++) {
            for (int b = 0; b < plan.joints(); b++) {
                held[a][b] = x.held(a, b);
            }
        }
        int count = 0;
        // From the largest number down, each set comes after the sets that it is a subset of.
        boolean[] within = new boolean[1 << plan.joints()];
        for (int group = (1 << plan.joints()) - 1; group > 0; group--) {
            if (Integer.bitCount(group) >= 3 && !within[group] && allHeld(held, group)) {
                count++;
                for (int part = group; part > 0; part = part - 1 & group) {
                    within[part] = true;
                }
            }
        }
        Check.due("14 " + plan, x.bodies(), count);
    }

    private static boolean allHeld(boolean[][] held, int group) {
        for (int a = 0; a < held.length; a++) {
            for (int b = 0; b < a; b++) {
                if (has(group, a) && has(group, b) && !held[a][b]) {
                    return false;
                }
            }
        }
        return true;
    }

    // Promise 15.

    private static void doublyHeldByRedundantAndRigid(Plan plan) {
        PebbleFrame x = plan.get();
        boolean due = x.rigid();
        for (int k = 0; k < 12; k++) {
            due &= !has(x.bars(), k) || x.redundant(k);
        }
        Check.due("15 " + plan, x.doublyHeld(), due);
    }

    // A bar is between a and b, not from a to b.

    private static void endsOfABarHaveNoOrder(Plan plan) {
        Check.due("2 " + plan, Frames.answers(plan.turnedRound().get()), Frames.answers(plan.get()));
    }

    // Nothing else than the calls before can change an answer.

    private static void sameCallsSameAnswers(Plan plan) {
        Check.due("16 " + plan, Frames.answers(plan.get()), Frames.answers(plan.get()));
    }

    private static boolean has(int set, int member) {
        return (set >> member & 1) == 1;
    }
}
