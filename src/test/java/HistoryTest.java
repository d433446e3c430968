import java.util.ArrayList;
import java.util.Arrays;
import java.util.List;
import java.util.Random;

/**
 * Long runs of mixed calls, each answer against that of a new object which had the points that stand, and the
 * latest cut, and nothing else: no answer hangs on what was asked before.
 */
public final class HistoryTest {
    private static final int MOST_CALLS = 512;
    // What changes the object comes seldom, so that much is asked of each state.
    private static final int SELDOM = 64;
    private static int wrong = 0;
    private static long asked = 0;

    private static final class Run {
        final Random random;
        final int most;
        final SolidRows used = new SolidRows();
        final List<int[]> points = new ArrayList<>();
        int[] cut = null;

        Run(int seed) {
            random = new Random(seed);
            most = seed % 3 == 0 ? 20 : seed % 3;
        }

        int upTo(int n) {
            return random.nextInt(2 * n + 1) - n;
        }

        /** What the call with this number answers with these arguments. */
        long ask(SolidRows solid, int which, int[] n) {
            switch (which) {
                case 0: return solid.point(n[0], n[1], n[2]);
                case 1: return solid.clear();
                case 2: return solid.cut(n[0], n[1], n[2], n[3]);
                case 3: return solid.cutAt(n[3], n[4], n[5]);
                case 4: return solid.shadow(n[0], n[1], n[2]);
                case 5: return solid.far(n[0], n[1], n[2], n[5]);
                case 6: return solid.where(n[0], n[1], n[2], n[4]);
                case 7: return solid.way(n[3], n[6]);
                case 8: return solid.symmetries();
                case 9: return solid.symmetry(n[3], n[6]);
                case 10: return solid.turn(n[3]);
                case 11: return solid.order(n[3]);
                case 12: return solid.regular();
                case 13: return solid.size(n[3]);
                case 14: return solid.at(n[6], n[4]);
                case 15: return solid.normal(n[3], n[4]);
                case 16: return solid.middle(n[4], n[5]);
                case 17: return solid.volume();
                case 18: return solid.corners();
                case 19: return solid.edges();
                case 20: return solid.faces();
                default: return solid.flat() ? 1 : 0;
            }
        }

        int[] arguments() {
            return new int[] {upTo(most), upTo(most), upTo(most), random.nextInt(9) - 1, random.nextInt(6) - 1,
                random.nextInt(4) - 1, random.nextInt(16) - 1};
        }

        int next() {
            int lot = random.nextInt(SELDOM);
            boolean grows = lot < 8 || points.size() < 6 && lot < 40;
            return grows ? 0 : lot == SELDOM - 1 ? 1 : 2 + random.nextInt(20);
        }

        SolidRows unused() {
            SolidRows solid = new SolidRows();
            for (int[] p : points) {
                solid.point(p[0], p[1], p[2]);
            }
            if (cut != null) {
                solid.cut(cut[0], cut[1], cut[2], cut[3]);
            }
            return solid;
        }

        void note(int which, int[] n, long answer) {
            if (which == 0 && answer >= 0) {
                points.add(n);
                cut = null;
            } else if (which == 1) {
                points.clear();
                cut = null;
            } else if (which == 2 && answer >= 0) {
                cut = n;
            }
        }

        void go(int seed) {
            for (int call = 1; call <= MOST_CALLS; call++) {
                int which = next();
                int[] n = arguments();
                long got = ask(used, which, n);
                long want = ask(unused(), which, n);
                asked++;
                if (got != want && wrong++ < 40) {
                    System.out.println("run " + seed + ", call " + call + ", number " + which + " with "
                        + Arrays.toString(n) + " answered " + got + ", a new object " + want);
                }
                note(which, n, want);
            }
        }
    }

    public static void main(String[] args) {
        for (int seed = 0; seed < 60; seed++) {
            new Run(seed).go(seed);
        }
        System.out.println(asked + " answers looked at");
        System.out.println(wrong == 0 ? "all answers are as due" : wrong + " answers are not as due");
        if (wrong != 0) {
            System.exit(1);
        }
    }
}
