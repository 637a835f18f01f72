/** The edges of WAYS and of a DAY that goes by, and of promises 13 to 18. */
public final class EdgeWayTest {
    private static final Edge.Run RICH = Valleys::rich;
    private static final int LOW = Integer.MIN_VALUE;
    private static final int HIGH = Integer.MAX_VALUE;
    private static final int SKID = 0;
    private static final int RAIL = 1;
    private static final int FLUME = 2;
    private static final int ROAD = 3;
    private static final int STREAM = 4;

    public static void main(String[] args) {
        wayNumbers();
        fortyWays();
        ironNumbers();
        ironStore();
        layNumbers();
        tenIron();
        skid();
        skidInSnow();
        rail();
        flume();
        road();
        stream();
        damOnADay();
        damNumbers();
        carryNumbers();
        earlierDay();
        notAbove();
        leastVolume();
        nextLogIsTried();
        carriedOnItToday();
        byNumbers();
        sunk();
        pond();
        dayCounts();
        lastDay();
        Check.end();
    }

    private static void wayNumbers() {
        Edge.says("A WAY (RAIL: not LAID): its number. NONE: no such CELLS, not side by side, no such kind, "
                + "40 are there.");
        for (int kind = 0; kind <= 4; kind++) {
            Edge.changes(RICH, 9, "way", kind, 62, 63);
        }
        for (int kind : new int[] {-1, 5, LOW, HIGH}) {
            Edge.refuses(RICH, -1, "way", kind, 62, 63);
        }
        int[][] cells = {{-1, 0}, {0, -1}, {64, 63}, {63, 64}, {56, 64}, {-8, 0}, {7, 8}, {8, 7}, {5, 5}, {0, 9},
            {9, 0}, {0, 2}, {0, 16}, {0, 63}, {LOW, LOW + 1}, {HIGH, HIGH - 1}, {0, LOW}, {HIGH, 63}};
        for (int[] one : cells) {
            Edge.refuses(RICH, -1, "way", SKID, one[0], one[1]);
        }
        TimberValley x = new TimberValley();
        Edge.is(x, 0, "way", RAIL, 0, 1);
        Edge.is(x, 0, "carry", 0);
        Edge.is(x, 0, "count", 4);
    }

    private static void fortyWays() {
        Edge.says("WAYS, 40 at most, numbered as they come, each from a CELL to one side by side.");
        Edge.Run full = x -> {
            x.iron(100);
            for (int i = 0; i < 40; i++) {
                x.way(i % 5, 63 - i % 8, 55 - i % 8);
            }
            x.lay(36, true);
        };
        Edge.refuses(full, -1, "way", SKID, 0, 1);
        Edge.refuses(full, -1, "way", RAIL, 63, 62);
        TimberValley x = new TimberValley();
        for (int i = 0; i < 40; i++) {
            Edge.is(x, -1, "way", 5, 0, 1);
            Edge.is(x, i, "way", SKID, 0, 1);
        }
        Edge.is(x, -1, "way", SKID, 0, 1);
        Edge.is(x, 40, "count", 2);
        Edge.is(x, 30, "carry", 39);
        Edge.is(x, -1, "carry", 40);
    }

    private static void ironNumbers() {
        Edge.says("IRON comes to the store (0 to 500; 5000 at most there): what is stored. "
                + "NONE: another number, it would be more.");
        for (int n : new int[] {-1, 501, LOW, HIGH}) {
            Edge.refuses(RICH, -1, "iron", n);
        }
        Edge.refuses(RICH, 27, "iron", 0);
        Edge.changes(RICH, 28, "iron", 1);
        Edge.changes(RICH, 527, "iron", 500);
    }

    private static void ironStore() {
        Edge.says("(0 to 500; 5000 at most there)");
        Edge.Run near = x -> {
            for (int i = 0; i < 9; i++) {
                x.iron(500);
            }
            x.iron(300);
        };
        Edge.refuses(near, -1, "iron", 201);
        Edge.refuses(near, -1, "iron", 500);
        Edge.changes(near, 5000, "iron", 200);
        TimberValley x = Edge.made(near);
        x.iron(200);
        Edge.is(x, 5000, "iron", 0);
        Edge.is(x, -1, "iron", 1);
        Edge.is(x, 5000, "count", 3);
        x.way(RAIL, 0, 1);
        Edge.is(x, 1, "lay", 0, true);
        Edge.is(x, -1, "iron", 11);
        Edge.is(x, 5000, "iron", 10);
    }

    private static void layNumbers() {
        Edge.says("A RAIL is LAID, or lifted (IRON comes back). False: no RAIL, it is so, IRON is less than 10.");
        // ways 2 and 3 are rails, 2 is laid; 27 are stored
        for (int way : new int[] {0, 1, 4, 5, 6, 7, 8, -1, 9, LOW, HIGH}) {
            Edge.refuses(RICH, 0, "lay", way, true);
            Edge.refuses(RICH, 0, "lay", way, false);
        }
        Edge.refuses(RICH, 0, "lay", 2, true);
        Edge.refuses(RICH, 0, "lay", 3, false);
        Edge.changes(RICH, 1, "lay", 2, false);
        Edge.changes(RICH, 1, "lay", 3, true);
        TimberValley x = Edge.made(RICH);
        x.lay(2, false);
        Edge.is(x, 37, "count", 3);
        Edge.is(x, 0, "count", 4);
        Edge.is(x, 0, "carry", 2);
        Edge.is(x, 0, "lay", 2, false);
        x.lay(2, true);
        Edge.is(x, 27, "count", 3);
        Edge.is(x, 10, "count", 4);
        Edge.is(x, 60, "carry", 2);
    }

    private static void tenIron() {
        Edge.says("1 RAIL: 60, if it is LAID; to lay one takes 10 IRON.");
        for (int stored = 0; stored <= 30; stored++) {
            int iron = stored;
            Edge.Run rails = x -> {
                x.way(RAIL, 0, 1);
                x.way(RAIL, 1, 2);
                x.iron(iron);
            };
            TimberValley x = Edge.made(rails);
            Edge.is(x, stored >= 10 ? 1 : 0, "lay", 0, true);
            Edge.is(x, stored >= 20 ? 1 : 0, "lay", 1, true);
            Edge.is(x, stored - Math.min(2, stored / 10) * 10, "count", 3);
            Edge.is(x, Math.min(2, stored / 10) * 10, "count", 4);
            if (stored == 9 || stored == 0) {
                Edge.refuses(rails, 0, "lay", 0, true);
            }
        }
    }

    /** CARRY of a WAY between two CELLS with heights, in a weather. */
    private static int carry(int kind, int from, int to, int snow, int water) {
        TimberValley x = new TimberValley();
        x.cell(9, from);
        x.cell(10, to);
        x.weather(0, snow, water, 3);
        x.way(kind, 9, 10);
        return x.carry(0);
    }

    private static void skid() {
        Edge.says("0 SKID: 30, less 3 for each HEIGHT that it climbs, less SNOW (0 at least)");
        for (int climb = -40; climb <= 40; climb++) {
            int from = climb < 0 ? -climb : 0;
            int to = climb > 0 ? climb : 0;
            int due = climb <= 0 ? 30 : climb <= 10 ? 30 - 3 * climb : 0;
            Check.is("climbs " + climb, due, carry(SKID, from, to, 0, 5));
        }
        Check.is("3 are left", 3, carry(SKID, 0, 9, 0, 5));
        Check.is("1 is left", 1, carry(SKID, 0, 9, 2, 5));
        Check.is("0 is left", 0, carry(SKID, 0, 9, 3, 5));
        Check.is("0 at least", 0, carry(SKID, 0, 9, 4, 5));
        Check.is("from 30 to 40", 0, carry(SKID, 30, 40, 0, 5));
        Check.is("from 31 to 40", 3, carry(SKID, 31, 40, 0, 5));
    }

    private static void skidInSnow() {
        Edge.says("none if SNOW is above 6.");
        for (int snow = 0; snow <= 9; snow++) {
            Check.is("snow " + snow, snow <= 6 ? 30 - snow : 0, carry(SKID, 0, 0, snow, 5));
            Check.is("snow " + snow, snow <= 6 ? 30 - snow : 0, carry(SKID, 7, 2, snow, 5));
        }
    }

    private static void rail() {
        Edge.says("1 RAIL: 60, if it is LAID");
        TimberValley x = new TimberValley();
        x.cell(10, 40);
        x.weather(0, 9, 0, 0);
        x.iron(10);
        x.way(RAIL, 9, 10);
        Edge.is(x, 0, "carry", 0);
        x.lay(0, true);
        Edge.is(x, 60, "carry", 0);
        x.lay(0, false);
        Edge.is(x, 0, "carry", 0);
    }

    private static void flume() {
        Edge.says("2 FLUME: 8 times WATER, if it falls (in HEIGHT).");
        for (int water = 0; water <= 9; water++) {
            Check.is("falls by 1", 8 * water, carry(FLUME, 1, 0, 9, water));
            Check.is("falls by 40", 8 * water, carry(FLUME, 40, 0, 0, water));
            Check.is("level", 0, carry(FLUME, 1, 1, 0, water));
            Check.is("climbs", 0, carry(FLUME, 0, 1, 0, water));
        }
    }

    private static void road() {
        Edge.says("3 ROAD: 40, if SNOW is 3 or more.");
        for (int snow = 0; snow <= 9; snow++) {
            Check.is("snow " + snow, snow >= 3 ? 40 : 0, carry(ROAD, 0, 40, snow, 5));
        }
    }

    private static void stream() {
        Edge.says("4 STREAM: 12 times WATER in spring, 3 times else, and 40 more on a DAY on which a DAM was let go "
                + "there; 0 if it doesn't fall.");
        for (int water = 0; water <= 9; water++) {
            Check.is("falls by 1", 3 * water, carry(STREAM, 1, 0, 9, water));
            Check.is("level", 0, carry(STREAM, 5, 5, 0, water));
            Check.is("climbs", 0, carry(STREAM, 5, 6, 0, water));
        }
        TimberValley x = new TimberValley();
        x.cell(9, 1);
        x.way(STREAM, 9, 10);
        x.weather(0, 0, 7, 0);
        for (int day = 0; day <= 151; day++) {
            Check.is("day " + day, day / 25 % 4 == 1 ? 84 : 21, x.carry(0));
            x.day();
        }
    }

    private static void damOnADay() {
        Edge.says("40 more on a DAY on which a DAM was let go there; 0 if it doesn't fall.");
        TimberValley x = new TimberValley();
        x.cell(9, 1);
        x.way(STREAM, 9, 10);
        x.way(STREAM, 9, 8);
        x.way(STREAM, 8, 9);
        x.weather(0, 0, 0, 0);
        Check.days(x, 24);
        Edge.is(x, 0, "carry", 0);
        Edge.is(x, 1, "dam", 0);
        Edge.is(x, 40, "carry", 0);
        Edge.is(x, 0, "carry", 1);
        Edge.is(x, 1, "dam", 2);
        Edge.is(x, 0, "carry", 2);
        x.cell(8, 2);
        Edge.is(x, 40, "carry", 2);
        x.day();
        Edge.is(x, 0, "carry", 0);
        x.weather(25, 0, 9, 0);
        Edge.is(x, 108, "carry", 0);
        Edge.is(x, 1, "dam", 0);
        Edge.is(x, 148, "carry", 0);
    }

    private static void damNumbers() {
        Edge.says("A DAM on a STREAM is let go on the DAY at hand. False: no STREAM, it was already.");
        // ways 4, 7 and 8 are streams; that of way 4 was let go
        for (int way : new int[] {0, 1, 2, 3, 5, 6, -1, 9, LOW, HIGH}) {
            Edge.refuses(RICH, 0, "dam", way);
        }
        Edge.refuses(RICH, 0, "dam", 4);
        Edge.changes(RICH, 1, "dam", 7);
        Edge.changes(RICH, 1, "dam", 8);
        TimberValley x = new TimberValley();
        x.way(STREAM, 0, 1);
        for (int day = 0; day < 5; day++) {
            Edge.is(x, 1, "dam", 0);
            Edge.is(x, 0, "dam", 0);
            x.day();
        }
    }

    private static void carryNumbers() {
        Edge.says("CARRY of a WAY on the DAY at hand (0 if barred). NONE: no such one.");
        for (int way : new int[] {-1, 9, LOW, HIGH}) {
            Edge.refuses(RICH, -1, "carry", way);
        }
        TimberValley x = Edge.made(RICH);
        // snow 4, water 6: way 6 is a road and barred; 4 has a dam
        int[] due = {26, 26, 60, 0, 58, 48, 0, 18, 18};
        for (int way = 0; way < 9; way++) {
            Edge.is(x, due[way], "carry", way);
        }
        Check.is("law", 0, Check.law(x, 6, ""));
        Edge.is(x, 40, "carry", 6);
    }

    private static TimberValley fallen(int mill, int row) {
        TimberValley x = new TimberValley();
        x.mill(mill);
        x.crew(0);
        x.stand(9, 0, 3, 9);
        x.fall(0, 9, 0, 3, row);
        return x;
    }

    private static void earlierDay() {
        Edge.says("LOGS that lie in its CELL, by numbers, and came there on an earlier DAY: each is carried");
        TimberValley x = fallen(63, 2);
        x.way(SKID, 9, 10);
        x.way(SKID, 10, 11);
        x.way(SKID, 9, 8);
        int[] cells = {9, 10, 11, 11};
        for (int day = 0; day < 4; day++) {
            Edge.is(x, day == 0 || day == 3 ? 0 : 1, "day");
            Edge.is(x, cells[day], "log", 0, 0);
        }
        TimberValley back = fallen(63, 2);
        back.way(SKID, 9, 10);
        back.way(SKID, 10, 9);
        for (int day = 0; day < 6; day++) {
            Edge.is(back, day == 0 ? 0 : 1, "day");
            Edge.is(back, day % 2 == 0 ? 9 : 10, "log", 0, 0);
        }
        Edge.is(back, 0, "log", 0, 4);
        // what falls today waits, also beside one that came earlier
        back.fall(0, 9, 0, 3, 2);
        back.day();
        Edge.is(back, 9, "log", 1, 0);
    }

    private static void notAbove() {
        Edge.says("if its VOLUME and that of those carried on it today are not above CARRY");
        // 29 wide, 2 long: 58 by 8 and 1 is 8
        int[][] climbAndSnow = {{7, 0, 9, 1}, {7, 1, 8, 1}, {7, 2, 7, 0}, {4, 2, 16, 2}, {4, 3, 15, 1}, {2, 0, 24, 3},
            {2, 1, 23, 2}, {10, 0, 0, 0}};
        for (int[] one : climbAndSnow) {
            TimberValley x = fallen(63, 2);
            x.fall(0, 9, 0, 3, 2);
            x.fall(0, 9, 0, 3, 2);
            Edge.is(x, 8, "log", 2, 7);
            x.cell(10, one[0]);
            x.way(SKID, 9, 10);
            x.weather(0, one[1], 5, 3);
            Edge.is(x, one[2], "carry", 0);
            x.day();
            Edge.is(x, one[3], "day");
            Edge.is(x, one[3], "of", 10, 2);
            Edge.is(x, 3 - one[3], "of", 9, 2);
        }
    }

    private static void leastVolume() {
        Edge.says("VOLUME: UNITS times WIDE, by 8, rounded down, and 1.");
        int[][] snowAndCarry = {{2, 1, 1}, {1, 2, 2}, {3, 0, 0}};
        for (int[] one : snowAndCarry) {
            TimberValley x = new TimberValley();
            x.mill(63);
            x.crew(0);
            x.sort(0, 20, 3);
            x.stand(9, 0, 0, 9);
            x.cell(10, 9);
            x.way(SKID, 9, 10);
            x.weather(0, one[0], 5, 3);
            for (int i = 0; i < 3; i++) {
                x.fall(0, 9, 0, 0, 4);
            }
            Edge.is(x, 1, "log", 0, 7);
            Edge.is(x, one[1], "carry", 0);
            x.day();
            Edge.is(x, one[2], "day");
            Edge.is(x, one[2], "of", 10, 2);
        }
    }

    private static void nextLogIsTried() {
        Edge.says("(else the next LOG is tried).");
        TimberValley x = fallen(63, 6);
        x.fall(0, 9, 0, 3, 2);
        x.fall(0, 9, 0, 3, 5);
        x.fall(0, 9, 0, 3, 2);
        // 25 wide, 6 long: 150 by 8 and 1 is 19; 26 wide, 5 long: 17
        int[] volumes = {19, 8, 17, 8};
        for (int log = 0; log < 4; log++) {
            Edge.is(x, volumes[log], "log", log, 7);
        }
        x.cell(10, 4);
        x.way(SKID, 9, 10);
        Edge.is(x, 18, "carry", 0);
        x.day();
        Edge.is(x, 2, "day");
        int[] cells = {9, 10, 9, 10};
        for (int log = 0; log < 4; log++) {
            Edge.is(x, cells[log], "log", log, 0);
        }
        Edge.is(x, 1, "day");
        Edge.is(x, 10, "log", 2, 0);
        Edge.is(x, 0, "day");
        Edge.is(x, 9, "log", 0, 0);
    }

    private static void carriedOnItToday() {
        Edge.says("its VOLUME and that of those carried on it today");
        TimberValley x = fallen(63, 2);
        for (int i = 0; i < 5; i++) {
            x.fall(0, 9, 0, 3, 2);
        }
        // two WAYS from one CELL, each with its own room, and one that leads back
        x.way(SKID, 9, 10);
        x.way(SKID, 9, 8);
        x.way(SKID, 10, 9);
        x.day();
        Edge.is(x, 6, "day");
        Edge.is(x, 3, "of", 10, 2);
        Edge.is(x, 3, "of", 8, 2);
        Edge.is(x, 3, "day");
        Edge.is(x, 3, "of", 9, 2);
        Edge.is(x, 3, "day");
        Edge.is(x, 3, "of", 10, 2);
    }

    private static void byNumbers() {
        Edge.says("A DAY goes by: WAY by WAY, LOGS that lie in its CELL, by numbers");
        TimberValley x = fallen(63, 22222);
        x.way(SKID, 9, 8);
        x.way(SKID, 9, 10);
        // volumes 8, 7, 7, 6, 6: 28 go over the first WAY, 6 over the other one
        int[] volumes = {8, 7, 7, 6, 6};
        x.day();
        Edge.is(x, 5, "day");
        for (int log = 0; log < 5; log++) {
            Edge.is(x, volumes[log], "log", log, 7);
            Edge.is(x, log < 4 ? 8 : 10, "log", log, 0);
        }
    }

    /** What became of a LOG of so many UNITS of SORT and CLASS 3 that a WAY carries to CELL 10. */
    private static int becomes(int kind, int sort, int taper, int water, int wide) {
        TimberValley x = new TimberValley();
        x.mill(63);
        x.crew(0);
        x.iron(10);
        x.sort(sort, 20, taper);
        x.cell(9, 1);
        x.stand(9, sort, 3, 1);
        x.fall(0, 9, sort, 3, 2);
        Edge.is(x, wide, "log", 0, 3);
        x.way(kind, 9, 10);
        x.weather(0, 5, water, 3);
        if (kind == RAIL) {
            x.lay(0, true);
        }
        x.day();
        Edge.is(x, 1, "day");
        return x.log(0, 6);
    }

    private static void sunk() {
        Edge.says("A LOG that a STREAM carries with WATER 9 and that is wider than 30 is SUNK.");
        Check.is("32 wide", 4, becomes(STREAM, 3, 1, 9, 32));
        Check.is("31 wide", 4, becomes(STREAM, 2, 1, 9, 31));
        Check.is("30 wide", 0, becomes(STREAM, 1, 1, 9, 30));
        Check.is("30 wide", 0, becomes(STREAM, 3, 2, 9, 30));
        Check.is("water 8", 0, becomes(STREAM, 3, 1, 8, 32));
        for (int kind : new int[] {SKID, RAIL, FLUME, ROAD}) {
            Check.is("kind " + kind, 0, becomes(kind, 3, 1, 9, 32));
        }
        TimberValley x = new TimberValley();
        x.mill(10);
        x.crew(0);
        x.cell(9, 1);
        x.stand(9, 3, 3, 1);
        x.fall(0, 9, 3, 3, 22);
        x.way(STREAM, 9, 10);
        x.weather(0, 0, 9, 0);
        x.day();
        Edge.is(x, 2, "day");
        Edge.is(x, 4, "log", 0, 6);
        Edge.is(x, 1, "log", 1, 6);
        Edge.is(x, 1, "count", 24);
        Edge.is(x, 0, "of", 9, 2);
        Edge.is(x, 0, "of", 10, 2);
    }

    private static void pond() {
        Edge.says("One that comes to the MILL's CELL (or lies there as a DAY goes by) is in the POND.");
        TimberValley x = fallen(9, 22);
        x.way(SKID, 9, 10);
        Edge.is(x, 0, "log", 0, 6);
        Edge.is(x, 2, "of", 9, 2);
        Edge.is(x, 0, "day");
        Edge.is(x, 1, "log", 0, 6);
        Edge.is(x, 1, "log", 1, 6);
        Edge.is(x, 0, "of", 9, 2);
        Edge.is(x, 0, "day");
        Edge.is(x, 9, "log", 0, 0);
        TimberValley y = fallen(10, 2);
        y.way(SKID, 9, 10);
        y.way(SKID, 10, 11);
        y.day();
        Edge.is(y, 0, "log", 0, 6);
        Edge.is(y, 1, "day");
        Edge.is(y, 1, "log", 0, 6);
        Edge.is(y, 10, "log", 0, 0);
        Edge.is(y, 0, "day");
        Edge.is(y, 10, "log", 0, 0);
    }

    private static void dayCounts() {
        Edge.says("A DAY goes by: how many LOGS were carried.");
        TimberValley x = new TimberValley();
        for (int day = 0; day < 500; day++) {
            Check.is("nothing is there", 0, x.day());
        }
        Edge.is(x, 500, "count", 0);
    }

    /** More than 512 calls are asked for here, the only way to the last DAY. */
    private static void lastDay() {
        Edge.says("NONE: it is 3999.");
        TimberValley x = new TimberValley();
        x.stand(0, 0, 3, 100);
        x.stand(0, 0, 2, 100);
        for (int day = 0; day < 3999; day++) {
            Check.is("day " + day, 0, x.day());
        }
        Edge.is(x, 3999, "count", 0);
        Edge.is(x, -1, "day");
        Edge.is(x, 3999, "count", 0);
        Edge.is(x, 0, "order", 1, 2, 1, 1, 3999);
        Edge.is(x, 1, "weather", 3999, 1, 1, 1);
        int stems = x.of(0, 7);
        Edge.is(x, -1, "day");
        Edge.is(x, stems, "of", 0, 7);
    }
}
