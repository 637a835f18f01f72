/** The edges of part 7 and of promises 39 to 44: spurs, seasons, rails and forty years. */
public final class EdgePlanTest {
    private static final Edge.Run RICH = Valleys::rich;
    private static final int LOW = Integer.MIN_VALUE;
    private static final int HIGH = Integer.MAX_VALUE;
    private static final int HIGHEST = 1 << 30;

    public static void main(String[] args) {
        spurNumbers();
        nineSpurs();
        askedNumbers();
        askedAtFirst();
        railsNumbers();
        railsOfNumbers();
        ironTogether();
        ironNow();
        costOnce();
        costAnew();
        haulEach();
        cellsThirty();
        lesserSet();
        seasonBySeason();
        fortyNumbers();
        twelveTogether();
        fortyYields();
        classesGoOn();
        leastAndGreatest();
        keptAreas();
        cantBe();
        lessFirst();
        cutInNumbers();
        latestThatToldASum();
        Check.end();
    }

    private static void spurNumbers() {
        Edge.says("A SPUR: its number. NONE: no CELLS, or beyond 30, other numbers (COST 0 to 999), nine are there.");
        Edge.says("SPURS, at most 9: CELLS as a set (of CELLS 0 to 30), IRON (1 to 50), COST to lay.");
        for (int cells : new int[] {0, -1, LOW, LOW + 1}) {
            Edge.refuses(RICH, -1, "spur", cells, 5, 5);
        }
        for (int iron : new int[] {0, -1, 51, LOW, HIGH}) {
            Edge.refuses(RICH, -1, "spur", 1, iron, 5);
        }
        for (int cost : new int[] {-1, 1000, LOW, HIGH}) {
            Edge.refuses(RICH, -1, "spur", 1, 5, cost);
        }
        for (int cells : new int[] {1, HIGHEST, HIGH}) {
            Edge.changes(RICH, 3, "spur", cells, 1, 0);
            Edge.changes(RICH, 3, "spur", cells, 50, 999);
        }
    }

    private static void nineSpurs() {
        Edge.says("nine are there.");
        Edge.Run full = x -> {
            x.iron(100);
            for (int i = 0; i < 9; i++) {
                x.spur(1 << i, 1 + i, 10 * i);
            }
            x.asked(0, 511);
        };
        Edge.refuses(full, -1, "spur", 1, 1, 0);
        Edge.refuses(full, -1, "spur", HIGH, 50, 999);
        TimberValley x = new TimberValley();
        for (int i = 0; i < 9; i++) {
            Edge.is(x, -1, "spur", 0, 1, 0);
            Edge.is(x, i, "spur", 1, 1, 0);
        }
        Edge.is(x, -1, "spur", 1, 1, 0);
        Edge.is(x, 9, "count", 11);
        TimberValley all = new TimberValley();
        all.iron(450);
        for (int i = 0; i < 9; i++) {
            all.spur(1 << i, 50, 1);
        }
        for (int season = 0; season < 4; season++) {
            all.asked(season, 511);
        }
        Edge.is(all, 9, "rails", 999);
        Edge.is(all, 511, "railsOf", 999, 0);
        Edge.is(all, 511, "railsOf", 999, 3);
    }

    private static void askedNumbers() {
        Edge.says("ASKED of a SEASON. False: no such one, CELLS beyond 30.");
        for (int season : new int[] {-1, 4, LOW, HIGH}) {
            Edge.refuses(RICH, 0, "asked", season, 1);
        }
        for (int cells : new int[] {-1, LOW, LOW + 1}) {
            Edge.refuses(RICH, 0, "asked", 0, cells);
        }
        Edge.changes(RICH, 1, "asked", 0, 0);
        for (int season = 0; season < 4; season++) {
            Edge.changes(RICH, 1, "asked", season, HIGH);
            Edge.changes(RICH, 1, "asked", season, 1 << 20);
        }
    }

    private static void askedAtFirst() {
        Edge.says("ASKED of a SEASON (0 to 3): CELLS as a set that are to be reached.");
        TimberValley x = new TimberValley();
        Edge.is(x, 0, "rails", 999);
        for (int season = 0; season < 4; season++) {
            Edge.is(x, 1, "asked", season, 1 << season);
            Edge.is(x, 999 * (season + 1), "rails", 999);
        }
        Edge.is(x, 1, "asked", 3, 0);
        Edge.is(x, 999 * 3, "rails", 999);
        Edge.is(x, 1, "asked", 0, HIGH);
        Edge.is(x, 999 * 33, "rails", 999);
        for (int season = 0; season < 4; season++) {
            x.asked(season, HIGH);
        }
        Edge.is(x, 999 * 124, "rails", 999);
    }

    private static void railsNumbers() {
        Edge.says("RAILS by HAUL: the least sum. NONE: another HAUL.");
        for (int haul : new int[] {-1, 1000, LOW, HIGH}) {
            Edge.refuses(RICH, -1, "rails", haul);
            Edge.refuses(Valleys::empty, -1, "rails", haul);
        }
        Edge.refuses(RICH, 0, "rails", 0);
        Edge.refuses(RICH, 22, "rails", 6);
        Edge.is(new TimberValley(), 0, "rails", 0);
        Edge.is(new TimberValley(), 0, "rails", 999);
    }

    private static void railsOfNumbers() {
        Edge.says("The set of a SEASON in it. NONE: another HAUL, SEASON.");
        for (int haul : new int[] {-1, 1000, LOW, HIGH}) {
            Edge.refuses(RICH, -1, "railsOf", haul, 0);
        }
        for (int season : new int[] {-1, 4, LOW, HIGH}) {
            Edge.refuses(RICH, -1, "railsOf", 6, season);
        }
        for (int season = 0; season < 4; season++) {
            Edge.is(new TimberValley(), 0, "railsOf", 0, season);
            Edge.is(new TimberValley(), 0, "railsOf", 999, season);
        }
        // another HAUL is asked for in between: each answer is by its own
        TimberValley x = Edge.made(RICH);
        Edge.is(x, 1, "railsOf", 6, 0);
        Edge.is(x, 0, "railsOf", 0, 0);
        Edge.is(x, 22, "rails", 6);
        Edge.is(x, 0, "rails", 0);
        Edge.is(x, 1, "railsOf", 6, 1);
    }

    private static void ironTogether() {
        Edge.says("RAILS: for each SEASON in order a set of SPURS whose IRON together is not above IRON stored");
        for (int stored = 0; stored <= 12; stored++) {
            TimberValley x = new TimberValley();
            x.iron(stored);
            x.spur(1, 4, 1);
            x.spur(2, 6, 1);
            x.asked(0, 3);
            int due = stored >= 10 ? 3 : stored >= 4 ? 1 : 0;
            Edge.is(x, stored >= 10 ? 2 : stored >= 4 ? 101 : 200, "rails", 100);
            Edge.is(x, due, "railsOf", 100, 0);
        }
        TimberValley x = new TimberValley();
        x.iron(49);
        x.spur(1, 50, 0);
        x.asked(0, 1);
        Edge.is(x, 5, "rails", 5);
        x.iron(1);
        Edge.is(x, 0, "rails", 5);
    }

    private static void ironNow() {
        Edge.says("whose IRON together is not above IRON stored");
        TimberValley x = new TimberValley();
        x.iron(19);
        x.way(1, 0, 1);
        x.spur(1, 10, 1);
        x.asked(0, 1);
        Edge.is(x, 1, "rails", 50);
        x.lay(0, true);
        Edge.is(x, 50, "rails", 50);
        Edge.is(x, 0, "railsOf", 50, 0);
        x.iron(1);
        Edge.is(x, 1, "rails", 50);
        x.lay(0, false);
        Edge.is(x, 1, "rails", 50);
    }

    private static void costOnce() {
        Edge.says("COST: each SPUR of a SEASON that was not there in the one ahead (all, in SEASON 0) its COST");
        TimberValley x = new TimberValley();
        x.iron(10);
        x.spur(1, 10, 30);
        x.asked(0, 1);
        x.asked(1, 1);
        x.asked(2, 1);
        x.asked(3, 1);
        Edge.is(x, 28, "rails", 7);
        Edge.is(x, 0, "railsOf", 7, 0);
        Edge.is(x, 30, "rails", 8);
        for (int season = 0; season < 4; season++) {
            Edge.is(x, 1, "railsOf", 8, season);
        }
        // it stays over SEASONS in which it isn't asked for
        x.asked(1, 0);
        x.asked(2, 0);
        Edge.is(x, 30, "rails", 16);
        for (int season = 0; season < 4; season++) {
            Edge.is(x, 1, "railsOf", 16, season);
        }
    }

    private static void costAnew() {
        Edge.says("that was not there in the one ahead");
        TimberValley x = new TimberValley();
        x.iron(10);
        x.spur(1, 10, 5);
        x.spur(2, 10, 1);
        x.asked(0, 1);
        x.asked(1, 2);
        x.asked(2, 1);
        x.asked(3, 2);
        // one has room: each is laid anew as it is lifted for the other one
        Edge.is(x, 5 + 1 + 5 + 1, "rails", 100);
        int[] sets = {1, 2, 1, 2};
        for (int season = 0; season < 4; season++) {
            Edge.is(x, sets[season], "railsOf", 100, season);
        }
        Edge.is(x, 3 + 1 + 3, "rails", 3);
        int[] lazy = {0, 2, 2, 2};
        for (int season = 0; season < 4; season++) {
            Edge.is(x, lazy[season], "railsOf", 3, season);
        }
    }

    private static void haulEach() {
        Edge.says("each CELL asked that no SPUR of that SEASON has: HAUL (0 to 999).");
        TimberValley x = new TimberValley();
        x.iron(2);
        x.spur(6, 1, 10);
        x.spur(12, 1, 10);
        x.asked(2, 31);
        Edge.is(x, 5, "rails", 1);
        Edge.is(x, 5 * 4, "rails", 4);
        Edge.is(x, 10 + 3 * 6, "rails", 6);
        Edge.is(x, 20 + 2 * 11, "rails", 11);
        Edge.is(x, 20 + 2 * 999, "rails", 999);
        Edge.is(x, 3, "railsOf", 999, 2);
        Edge.is(x, 0, "railsOf", 4, 2);
    }

    private static void cellsThirty() {
        Edge.says("CELLS as a set (of CELLS 0 to 30)");
        TimberValley x = new TimberValley();
        x.iron(1);
        x.spur(HIGHEST | 1, 1, 1);
        x.asked(0, HIGH);
        Edge.is(x, 1 + 29 * 9, "rails", 9);
        x.asked(0, HIGHEST);
        Edge.is(x, 1, "rails", 9);
        x.asked(0, 1);
        Edge.is(x, 1, "rails", 9);
        x.asked(0, HIGHEST >> 1);
        Edge.is(x, 9, "rails", 9);
    }

    private static void lesserSet() {
        Edge.says("The least sum; of several the first, SEASON by SEASON the lesser set as a number.");
        TimberValley x = new TimberValley();
        x.iron(1);
        x.spur(1, 1, 7);
        x.spur(1, 1, 7);
        x.asked(0, 1);
        // to haul costs as much: the lesser set is none
        Edge.is(x, 7, "rails", 7);
        Edge.is(x, 0, "railsOf", 7, 0);
        Edge.is(x, 7, "rails", 8);
        Edge.is(x, 1, "railsOf", 8, 0);
        Edge.is(x, 0, "railsOf", 8, 1);
        TimberValley free = new TimberValley();
        free.iron(50);
        free.spur(1, 1, 0);
        free.spur(2, 1, 0);
        free.asked(1, 2);
        Edge.is(free, 0, "rails", 9);
        int[] sets = {0, 2, 0, 0};
        for (int season = 0; season < 4; season++) {
            Edge.is(free, sets[season], "railsOf", 9, season);
            Edge.is(free, 0, "railsOf", 0, season);
        }
    }

    private static void seasonBySeason() {
        Edge.says("SEASON by SEASON the lesser set as a number.");
        TimberValley x = new TimberValley();
        x.iron(2);
        x.spur(1, 1, 5);
        x.asked(0, 1);
        x.asked(2, 1);
        // laid once and kept over SEASON 1, or laid twice; laid once is 5 alone
        Edge.is(x, 5, "rails", 9);
        int[] kept = {1, 1, 1, 0};
        for (int season = 0; season < 4; season++) {
            Edge.is(x, kept[season], "railsOf", 9, season);
        }
        // 5 either way in SEASON 0: the lesser set there comes first, whatever comes then
        Edge.is(x, 5, "rails", 5);
        TimberValley y = new TimberValley();
        y.iron(2);
        y.spur(1, 1, 5);
        y.asked(0, 1);
        y.asked(3, 1);
        y.asked(2, 0);
        Edge.is(y, 5, "rails", 5);
        int[] first = {1, 1, 1, 1};
        for (int season = 0; season < 4; season++) {
            Edge.is(y, first[season], "railsOf", 5, season);
        }
        Edge.is(y, 4, "rails", 2);
        Edge.is(y, 0, "railsOf", 2, 0);
    }

    private static void fortyNumbers() {
        Edge.says("FORTY YEARS: the greatest sum. NONE: other numbers (least, greatest 0 to 60; KEPT 0 to 12); "
                + "-2: it can't be.");
        Edge.says("FORTY YEARS: areas of CLASSES 0 to 3 (0 to 9 each, 12 together at most), eight PERIODS.");
        int[] highest = {9, 9, 9, 9, 60, 60, 12};
        for (int which = 0; which < 7; which++) {
            for (int v : new int[] {-1, highest[which] + 1, LOW, HIGH}) {
                Object[] given = {0, 0, 0, 0, 0, 60, 0};
                given[which] = v;
                Edge.refuses(RICH, -1, "forty", given);
            }
        }
        for (int which = 0; which < 4; which++) {
            Object[] given = {0, 0, 0, 0, 0, 60, 0};
            given[which] = 9;
            Check.yes("nine of class " + which, Edge.call(new TimberValley(), "forty", given) > 0);
        }
        Edge.is(new TimberValley(), 0, "forty", 0, 0, 0, 0, 0, 0, 0);
        Edge.is(new TimberValley(), 0, "forty", 0, 0, 0, 0, 0, 60, 0);
        Edge.is(new TimberValley(), -2, "forty", 0, 0, 0, 0, 60, 60, 0);
        Edge.is(new TimberValley(), -2, "forty", 0, 0, 0, 0, 0, 60, 12);
        Edge.is(new TimberValley(), -2, "forty", 3, 3, 3, 3, 60, 60, 12);
        Edge.is(new TimberValley(), -2, "forty", 3, 3, 3, 3, 60, 0, 0);
        // of all twelve, 0 in each PERIOD: all are CLASS 3 at the end
        Edge.is(new TimberValley(), 0, "forty", 3, 3, 3, 3, 0, 0, 12);
    }

    private static void twelveTogether() {
        Edge.says("12 together at most");
        int[][] twelve = {{9, 3, 0, 0}, {0, 9, 3, 0}, {0, 0, 9, 3}, {3, 0, 0, 9}, {3, 3, 3, 3}, {6, 0, 6, 0}};
        for (int[] a : twelve) {
            TimberValley x = new TimberValley();
            Check.yes("12 areas", x.forty(a[0], a[1], a[2], a[3], 0, 60, 0) > 0);
            for (int which = 0; which < 4; which++) {
                Object[] given = {a[0], a[1], a[2], a[3], 0, 60, 0};
                given[which] = a[which] + 1;
                Edge.is(x, -1, "forty", given);
            }
        }
        for (int which = 0; which < 4; which++) {
            Object[] given = {3, 3, 3, 3, 0, 60, 0};
            given[which] = 4;
            Edge.refuses(RICH, -1, "forty", given);
        }
    }

    private static void fortyYields() {
        Edge.says("In each one cuts some areas of CLASS 3 and of CLASS 2: they yield 5 and 2 each");
        TimberValley x = new TimberValley();
        // one area of CLASS 3: 5 at once, CLASS 3 again in PERIOD 4; 2 in the last
        Edge.is(x, 5 + 5 + 2, "forty", 0, 0, 0, 1, 0, 60, 0);
        int[] three = {1, 0, 0, 0, 1, 0, 0, 0};
        int[] two = {0, 0, 0, 0, 0, 0, 0, 1};
        for (int period = 0; period < 8; period++) {
            Edge.is(x, three[period], "cutIn", period, 0);
            Edge.is(x, two[period], "cutIn", period, 1);
        }
        Edge.is(x, 5 + 5, "forty", 0, 0, 1, 0, 0, 60, 0);
        // CLASS 0 is CLASS 3 in PERIOD 3 and again in PERIOD 7
        Edge.is(x, 5 + 5, "forty", 1, 0, 0, 0, 0, 60, 0);
        Edge.is(x, 1, "cutIn", 3, 0);
        Edge.is(x, 1, "cutIn", 7, 0);
        Edge.is(x, 5 * 12 + 5 * 12, "forty", 9, 3, 0, 0, 0, 60, 0);
    }

    private static void classesGoOn() {
        Edge.says("what is cut is CLASS 0 then, all else a CLASS more (3 stays).");
        TimberValley x = new TimberValley();
        // CLASS 1 yields first in PERIOD 1, by 2: least 1 can't be met in PERIOD 0
        Edge.is(x, -2, "forty", 0, 9, 0, 0, 1, 60, 0);
        Edge.is(x, -2, "forty", 9, 0, 0, 0, 1, 60, 0);
        // four areas of CLASS 3, one cut in each PERIOD, are CLASS 3 again four PERIODS on
        Edge.is(x, 40, "forty", 0, 0, 0, 4, 5, 5, 0);
        for (int period = 0; period < 8; period++) {
            Edge.is(x, 1, "cutIn", period, 0);
            Edge.is(x, 0, "cutIn", period, 1);
        }
        Edge.is(x, -2, "forty", 0, 0, 0, 3, 5, 5, 0);
        // three of CLASS 2 in a row: each is CLASS 2 again three PERIODS on
        Edge.is(x, 2 * 8, "forty", 1, 1, 1, 0, 2, 2, 0);
        Edge.is(x, -2, "forty", 0, 1, 1, 0, 2, 2, 0);
    }

    private static void leastAndGreatest() {
        Edge.says("A PERIOD's yield is to be from a least to a greatest");
        TimberValley x = new TimberValley();
        // nine of CLASS 3 are 45
        Edge.is(x, 9 * 5 * 2 + 9 * 2, "forty", 0, 0, 0, 9, 0, 45, 0);
        Edge.is(x, 9, "cutIn", 0, 0);
        Check.yes("44 leaves one", x.forty(0, 0, 0, 9, 0, 44, 0) > 0);
        Check.no("not all at once", x.cutIn(0, 0) == 9);
        Edge.is(x, 0, "forty", 0, 0, 0, 9, 0, 1, 0);
        // one of CLASS 2 in PERIODS 0 and 1, none in PERIOD 2: those of CLASS 3 yield too much
        Edge.is(x, -2, "forty", 0, 1, 1, 9, 2, 2, 0);
        Edge.is(x, -2, "forty", 0, 0, 0, 9, 3, 4, 0);
        Edge.is(x, -2, "forty", 0, 0, 0, 9, 5, 4, 0);
        Edge.is(x, 40, "forty", 0, 0, 0, 9, 5, 5, 0);
        Edge.is(x, 40, "forty", 0, 0, 0, 9, 4, 6, 0);
    }

    private static void keptAreas() {
        Edge.says("at the end CLASS 3 is to have KEPT areas or more.");
        TimberValley x = new TimberValley();
        // cut in PERIOD 4 at the latest it is CLASS 3 at the end: 0, then 1, 2, 3
        Edge.is(x, 10, "forty", 0, 0, 0, 1, 0, 60, 1);
        Edge.is(x, 12, "forty", 0, 0, 0, 1, 0, 60, 0);
        Edge.is(x, -2, "forty", 0, 0, 0, 1, 0, 60, 2);
        Edge.is(x, 20, "forty", 0, 0, 0, 2, 0, 60, 2);
        Edge.is(x, 22, "forty", 0, 0, 0, 2, 0, 60, 1);
        Edge.is(x, 24, "forty", 0, 0, 0, 2, 0, 60, 0);
        Edge.is(x, -2, "forty", 3, 3, 3, 2, 0, 60, 12);
        Check.yes("12 are kept", x.forty(3, 3, 3, 3, 0, 60, 12) > 0);
    }

    private static void cantBe() {
        Edge.says("-2: it can't be.");
        Edge.refuses(RICH, -2, "forty", 1, 2, 3, 4, 60, 60, 0);
        Edge.refuses(RICH, -2, "forty", 1, 2, 3, 4, 0, 30, 11);
        Edge.refuses(RICH, -2, "forty", 1, 2, 3, 4, 31, 30, 0);
        Edge.refuses(RICH, -2, "forty", 0, 0, 0, 0, 1, 60, 0);
    }

    private static void lessFirst() {
        Edge.says("The greatest sum of yields; of several the first, PERIOD by PERIOD: less of CLASS 3 cut first, "
                + "then less of CLASS 2.");
        TimberValley x = new TimberValley();
        // to be CLASS 3 at the end it is cut at once and in PERIOD 4
        Edge.is(x, 5 + 5, "forty", 0, 0, 0, 1, 0, 60, 1);
        int[] due = {1, 0, 0, 0, 1, 0, 0, 0};
        for (int period = 0; period < 8; period++) {
            Edge.is(x, due[period], "cutIn", period, 0);
            Edge.is(x, 0, "cutIn", period, 1);
        }
        // 5 and 5 in PERIODS 1 and 5, 2 and 6, 3 and 7: less is cut first in the last of these
        Edge.is(x, 10, "forty", 0, 0, 1, 0, 0, 60, 0);
        int[] late = {0, 0, 0, 1, 0, 0, 0, 1};
        for (int period = 0; period < 8; period++) {
            Edge.is(x, late[period], "cutIn", period, 0);
            Edge.is(x, 0, "cutIn", period, 1);
        }
        // at most 2 a PERIOD: CLASS 2 alone is cut, in each third
        Edge.is(x, 6, "forty", 0, 1, 0, 0, 0, 2, 0);
        int[] two = {0, 1, 0, 0, 1, 0, 0, 1};
        for (int period = 0; period < 8; period++) {
            Edge.is(x, 0, "cutIn", period, 0);
            Edge.is(x, two[period], "cutIn", period, 1);
        }
    }

    private static void cutInNumbers() {
        Edge.says("Of the latest forty() that told a sum: areas of CLASS 3 (what 0), CLASS 2 (1) cut in a PERIOD. "
                + "NONE: none, no such ones.");
        for (int period : new int[] {-1, 8, LOW, HIGH}) {
            Edge.refuses(RICH, -1, "cutIn", period, 0);
        }
        for (int what : new int[] {-1, 2, LOW, HIGH}) {
            Edge.refuses(RICH, -1, "cutIn", 0, what);
        }
        for (int period = 0; period < 8; period++) {
            Edge.refuses(Valleys::empty, -1, "cutIn", period, 0);
            Edge.refuses(Valleys::empty, -1, "cutIn", period, 1);
            Check.yes("told", Edge.made(RICH).cutIn(period, 0) >= 0);
        }
    }

    private static void latestThatToldASum() {
        Edge.says("Of the latest forty() that told a sum");
        TimberValley x = new TimberValley();
        Edge.is(x, -1, "forty", 10, 0, 0, 0, 0, 60, 0);
        Edge.is(x, -2, "forty", 0, 0, 0, 0, 1, 60, 0);
        Edge.is(x, -1, "cutIn", 0, 0);
        Edge.is(x, 0, "forty", 0, 0, 0, 0, 0, 0, 0);
        Edge.is(x, 0, "cutIn", 0, 0);
        Edge.is(x, 36, "forty", 0, 0, 0, 3, 0, 60, 0);
        Edge.is(x, 3, "cutIn", 0, 0);
        Edge.is(x, -1, "forty", 0, 0, 0, 2, 0, 61, 0);
        Edge.is(x, 3, "cutIn", 0, 0);
        Edge.is(x, -2, "forty", 0, 0, 0, 2, 0, 60, 3);
        Edge.is(x, 3, "cutIn", 0, 0);
        Edge.is(x, 3, "cutIn", 7, 1);
        Edge.is(x, 24, "forty", 0, 0, 0, 2, 0, 60, 0);
        Edge.is(x, 2, "cutIn", 0, 0);
        Edge.is(x, 2, "cutIn", 7, 1);
    }
}
