import java.util.HashMap;
import java.util.List;
import java.util.Map;
import java.util.Random;

/** Promises 39 to 44: spurs for four seasons and cuts for forty years, against a search of all. */
public final class PlanTest {
    public static void main(String[] args) {
        spurs();
        asked();
        noSpurs();
        for (int seed = 0; seed < 60; seed++) {
            rails(new Random(seed));
        }
        nineSpurs();
        wrongForty();
        for (int seed = 0; seed < 60; seed++) {
            forty(new Random(seed));
        }
        twelveAreas();
        Check.end();
    }

    private static void spurs() {
        TimberValley x = new TimberValley();
        Check.is("no cells", -1, x.spur(0, 1, 1));
        Check.is("beyond 30", -1, x.spur(Integer.MIN_VALUE, 1, 1));
        Check.is("beyond 30", -1, x.spur(-1, 1, 1));
        Check.is("iron", -1, x.spur(1, 0, 1));
        Check.is("iron", -1, x.spur(1, 51, 1));
        Check.is("cost", -1, x.spur(1, 1, -1));
        Check.is("cost", -1, x.spur(1, 1, 1000));
        Check.is("spur", 0, x.spur(Integer.MAX_VALUE, 50, 999));
        for (int i = 1; i < 9; i++) {
            Check.is("spur", i, x.spur(1 << 30, 1, 0));
        }
        Check.is("nine are there", -1, x.spur(1, 1, 1));
        Check.is("spurs", 9, x.count(11));
    }

    private static void asked() {
        TimberValley x = new TimberValley();
        Check.no("season", x.asked(-1, 1));
        Check.no("season", x.asked(4, 1));
        Check.no("cells", x.asked(0, -1));
        Check.no("cells", x.asked(0, Integer.MIN_VALUE));
        Check.yes("cells", x.asked(0, Integer.MAX_VALUE));
        Check.yes("none", x.asked(3, 0));
        Check.is("31 cells", 31 * 999, x.rails(999));
        Check.yes("in place of", x.asked(0, 5));
        Check.is("2 cells", 2 * 999, x.rails(999));
    }

    private static void noSpurs() {
        TimberValley x = new TimberValley();
        x.asked(2, 7);
        Check.is("rails", 21, x.rails(7));
        Check.is("rails", 0, x.rails(0));
        Check.is("haul", -1, x.rails(-1));
        Check.is("haul", -1, x.rails(1000));
        Check.is("haul", -1, x.railsOf(-1, 0));
        Check.is("haul", -1, x.railsOf(1000, 0));
        Check.is("season", -1, x.railsOf(0, 4));
        Check.is("season", -1, x.railsOf(0, -1));
        for (int season = 0; season < 4; season++) {
            Check.is("none", 0, x.railsOf(7, season));
        }
    }

    private static void rails(Random random) {
        TimberValley x = new TimberValley();
        int many = random.nextInt(5);
        int[] cells = new int[many];
        int[] iron = new int[many];
        int[] cost = new int[many];
        int[] asked = new int[4];
        int stored = random.nextInt(70);
        x.iron(stored);
        for (int i = 0; i < many; i++) {
            cells[i] = 1 + random.nextInt(63);
            iron[i] = 1 + random.nextInt(30);
            cost[i] = random.nextInt(random.nextBoolean() ? 3 : 12);
            x.spur(cells[i], iron[i], cost[i]);
        }
        for (int s = 0; s < 4; s++) {
            asked[s] = random.nextInt(64);
            x.asked(s, asked[s]);
        }
        int haul = random.nextInt(5);
        int best = Integer.MAX_VALUE;
        int bestSets = 0;
        for (int sets = 0; sets < 1 << 4 * many; sets++) {
            int sum = costOf(sets, many, stored, haul, new int[][] {cells, iron, cost, asked});
            if (sum < best) {
                best = sum;
                bestSets = sets;
            }
        }
        Check.is("rails", best, x.rails(haul));
        for (int s = 0; s < 4; s++) {
            int due = bestSets >> (3 - s) * many & (1 << many) - 1;
            Check.is("set of season " + s, due, x.railsOf(haul, s));
        }
    }

    /** The sets of the earlier seasons stand higher in the number: the first is the least. */
    private static int costOf(int sets, int many, int stored, int haul, int[][] all) {
        int before = 0;
        int sum = 0;
        for (int s = 0; s < 4; s++) {
            int set = sets >> (3 - s) * many & (1 << many) - 1;
            int iron = 0;
            int has = 0;
            for (int i = 0; i < many; i++) {
                if ((set >> i & 1) == 1) {
                    iron += all[1][i];
                    has |= all[0][i];
                    sum += (before >> i & 1) == 1 ? 0 : all[2][i];
                }
            }
            if (iron > stored) {
                return Integer.MAX_VALUE;
            }
            sum += haul * Integer.bitCount(all[3][s] & ~has);
            before = set;
        }
        return sum;
    }

    private static void nineSpurs() {
        TimberValley x = new TimberValley();
        x.iron(450);
        for (int i = 0; i < 9; i++) {
            x.spur(1 << i, 50, 999);
        }
        for (int s = 0; s < 4; s++) {
            x.asked(s, 1023);
        }
        Check.is("all nine", 9 * 999 + 4 * 999, x.rails(999));
        Check.is("all nine", 511, x.railsOf(999, 0));
        Check.is("all nine", 511, x.railsOf(999, 3));
        Check.is("haul all", 40 * 249, x.rails(249));
        Check.is("none", 0, x.railsOf(249, 0));
        x.way(1, 0, 1);
        x.lay(0, true);
        Check.is("iron laid isn't stored", 8 * 999 + 8 * 999, x.rails(999));
        Check.is("the lesser set", 255, x.railsOf(999, 0));
    }

    private static void wrongForty() {
        TimberValley x = new TimberValley();
        Check.is("a0", -1, x.forty(-1, 0, 0, 0, 0, 60, 0));
        Check.is("a0", -1, x.forty(10, 0, 0, 0, 0, 60, 0));
        Check.is("a1", -1, x.forty(0, 10, 0, 0, 0, 60, 0));
        Check.is("a2", -1, x.forty(0, 0, 10, 0, 0, 60, 0));
        Check.is("a3", -1, x.forty(0, 0, 0, 10, 0, 60, 0));
        Check.is("13 areas", -1, x.forty(4, 3, 3, 3, 0, 60, 0));
        Check.is("least", -1, x.forty(0, 0, 0, 0, -1, 60, 0));
        Check.is("least", -1, x.forty(0, 0, 0, 0, 61, 60, 0));
        Check.is("greatest", -1, x.forty(0, 0, 0, 0, 0, 61, 0));
        Check.is("greatest", -1, x.forty(0, 0, 0, 0, 0, -1, 0));
        Check.is("kept", -1, x.forty(0, 0, 0, 0, 0, 60, 13));
        Check.is("kept", -1, x.forty(0, 0, 0, 0, 0, 60, -1));
        Check.is("none told", -1, x.cutIn(0, 0));
        Check.is("can't be", -2, x.forty(0, 0, 0, 0, 1, 60, 0));
        Check.is("can't be", -2, x.forty(0, 0, 0, 3, 5, 4, 0));
        Check.is("can't be kept", -2, x.forty(1, 1, 1, 1, 0, 60, 5));
        Check.is("none told", -1, x.cutIn(0, 0));
        Check.is("nothing there", 0, x.forty(0, 0, 0, 0, 0, 0, 0));
        Check.is("nothing cut", 0, x.cutIn(7, 1));
        Check.is("period", -1, x.cutIn(8, 0));
        Check.is("period", -1, x.cutIn(-1, 0));
        Check.is("what", -1, x.cutIn(0, 2));
        Check.is("what", -1, x.cutIn(0, -1));
        Check.is("all of class 3 in period 3 and 7", 90, x.forty(9, 0, 0, 0, 0, 60, 0));
        Check.is("all of class 3 in period 3", 9, x.cutIn(3, 0));
        Check.is("all of class 3 in period 7", 9, x.cutIn(7, 0));
    }

    private static int bestYield;
    private static int[] bestCuts;

    private static void forty(Random random) {
        TimberValley x = new TimberValley();
        int[] a = new int[4];
        int areas = random.nextInt(4);
        for (int i = 0; i < areas; i++) {
            a[random.nextInt(4)]++;
        }
        int least = random.nextInt(random.nextBoolean() ? 1 : 4);
        int greatest = random.nextBoolean() ? 60 : 2 + random.nextInt(8);
        int kept = random.nextInt(areas + 1);
        bestYield = -2;
        tryCuts(a, 0, 0, new int[16], new int[] {least, greatest, kept});
        Check.is("forty", bestYield, x.forty(a[0], a[1], a[2], a[3], least, greatest, kept));
        for (int p = 0; p < 8; p++) {
            for (int what = 0; what < 2; what++) {
                int due = bestYield < 0 ? -1 : bestCuts[2 * p + what];
                Check.is("cut in " + p, due, x.cutIn(p, what));
            }
        }
    }

    /** Cuts come in their order, so the first of the best stays. */
    private static void tryCuts(int[] a, int period, int sum, int[] cuts, int[] limits) {
        if (period == 8) {
            if (a[3] >= limits[2] && sum > bestYield) {
                bestYield = sum;
                bestCuts = cuts.clone();
            }
            return;
        }
        for (int three = 0; three <= a[3]; three++) {
            for (int two = 0; two <= a[2]; two++) {
                int yield = 5 * three + 2 * two;
                if (yield >= limits[0] && yield <= limits[1]) {
                    cuts[2 * period] = three;
                    cuts[2 * period + 1] = two;
                    int[] next = {three + two, a[0], a[1], a[3] - three + a[2] - two};
                    tryCuts(next, period + 1, sum + yield, cuts, limits);
                }
            }
        }
    }

    private static final Map<List<Integer>, Integer> SUMS = new HashMap<>();

    private static void twelveAreas() {
        int[][] starts = {{0, 0, 3, 9}, {3, 3, 3, 3}, {9, 3, 0, 0}, {0, 6, 6, 0}, {1, 2, 4, 5}};
        int[][] limits = {{0, 60, 0}, {10, 20, 4}, {0, 7, 12}, {4, 60, 9}, {12, 15, 0}, {0, 0, 3}};
        for (int[] a : starts) {
            for (int[] l : limits) {
                TimberValley x = new TimberValley();
                SUMS.clear();
                int due = bestSum(List.of(0, a[0], a[1], a[2], a[3]), l);
                Check.is("forty", due, x.forty(a[0], a[1], a[2], a[3], l[0], l[1], l[2]));
                if (due >= 0) {
                    firstCuts(x, a.clone(), l);
                }
            }
        }
    }

    private static int bestSum(List<Integer> s, int[] limits) {
        if (s.get(0) == 8) {
            return s.get(4) >= limits[2] ? 0 : -2;
        }
        if (SUMS.containsKey(s)) {
            return SUMS.get(s);
        }
        int best = -2;
        for (int three = 0; three <= s.get(4); three++) {
            for (int two = 0; two <= s.get(3); two++) {
                best = Math.max(best, sumBy(s, three, two, limits));
            }
        }
        SUMS.put(s, best);
        return best;
    }

    private static int sumBy(List<Integer> s, int three, int two, int[] limits) {
        int yield = 5 * three + 2 * two;
        if (yield < limits[0] || yield > limits[1]) {
            return -2;
        }
        int rest = bestSum(List.of(s.get(0) + 1, three + two, s.get(1), s.get(2),
                s.get(4) - three + s.get(3) - two), limits);
        return rest < 0 ? -2 : rest + yield;
    }

    private static void firstCuts(TimberValley x, int[] a, int[] limits) {
        List<Integer> s = List.of(0, a[0], a[1], a[2], a[3]);
        for (int p = 0; p < 8; p++) {
            int best = bestSum(s, limits);
            int first = 0;
            while (first / 13 > s.get(4) || first % 13 > s.get(3)
                    || sumBy(s, first / 13, first % 13, limits) != best) {
                first++;
            }
            int three = first / 13;
            int two = first % 13;
            Check.is("class 3 in " + p, three, x.cutIn(p, 0));
            Check.is("class 2 in " + p, two, x.cutIn(p, 1));
            s = List.of(p + 1, three + two, s.get(1), s.get(2), s.get(4) - three + s.get(3) - two);
        }
    }
}
