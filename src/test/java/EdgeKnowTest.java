/** The edges of part 8 and of promises 49 to 51: what the mill knew, and the register. */
public final class EdgeKnowTest {
    private static final Edge.Run RICH = Valleys::rich;
    private static final int LOW = Integer.MIN_VALUE;
    private static final int HIGH = Integer.MAX_VALUE;

    public static void main(String[] args) {
        knewNumbers();
        farByFour();
        aheadOfItsFirst();
        lastChangeOfThatDay();
        changesOfADay();
        whatCanBecome();
        inItsCellThen();
        alterNumbers();
        alterMasks();
        checkedNumbers();
        bothAreRight();
        onePlace();
        orNone();
        restsBy65537();
        anotherOne();
        asItCame();
        nothingElseAsks();
        Check.end();
    }

    private static void knewNumbers() {
        Edge.says("What the MILL KNEW on DAY k (0 to that at hand) of a LOG as of DAY d (0 to k). "
                + "NONE: nothing; -2: no such ones.");
        for (int log : new int[] {-1, 17, LOW, HIGH}) {
            Edge.refuses(RICH, -2, "knew", log, 0, 0);
        }
        int[][] days = {{0, 7}, {7, 7}, {-1, 6}, {-1, -1}, {0, -1}, {6, 5}, {1, 0}, {LOW, 6}, {HIGH, 6}, {0, LOW},
            {0, HIGH}, {HIGH, HIGH}, {3, 2}};
        for (int[] one : days) {
            Edge.refuses(RICH, -2, "knew", 0, one[0], one[1]);
        }
        Edge.refuses(Valleys::empty, -2, "knew", 0, 0, 0);
        TimberValley x = Edge.made(RICH);
        // log 0 fell beside the mill, was in the pond as DAY 1 went by, and was sawn on DAY 4
        for (int k = 0; k <= 6; k++) {
            for (int d = 0; d <= k; d++) {
                Edge.is(x, d == 0 ? 0 : d < 4 ? 1 : 2, "knew", 0, d, k);
            }
        }
    }

    private static void farByFour() {
        Edge.says("a change in a CELL is known FAR by 4 DAYS later (rounded down; by what FAR was as it was told).");
        for (int far = 0; far <= 14; far++) {
            TimberValley x = new TimberValley();
            x.mill(0);
            x.crew(0);
            int cell = far <= 7 ? far : 7 + 8 * (far - 7);
            x.stand(cell, 0, 0, 1);
            x.day();
            x.fall(0, cell, 0, 0, 4);
            Edge.is(x, far, "of", cell, 3);
            x.fire(cell, 0, 1);
            Check.days(x, 5);
            for (int k = 1; k <= 6; k++) {
                Edge.is(x, k >= 1 + far / 4 ? 3 : -1, "knew", 0, 1, k);
            }
        }
    }

    private static void aheadOfItsFirst() {
        Edge.says("It knows none ahead of its first.");
        TimberValley x = new TimberValley();
        x.mill(0);
        x.crew(0);
        x.stand(1, 0, 0, 1);
        Check.days(x, 3);
        x.fall(0, 1, 0, 0, 4);
        Check.days(x, 2);
        for (int k = 0; k <= 5; k++) {
            for (int d = 0; d <= k; d++) {
                Edge.is(x, d < 3 ? -1 : 0, "knew", 0, d, k);
            }
        }
    }

    private static void lastChangeOfThatDay() {
        Edge.says("THE MILL KNOWS of a LOG, as of a DAY and as known on a later one: what became of it (0 to 4) by the "
                + "last change of that DAY or ahead that was known by then");
        TimberValley x = new TimberValley();
        x.mill(0);
        x.crew(0);
        x.stand(63, 0, 0, 1);
        x.fall(0, 63, 0, 0, 4);
        Check.days(x, 2);
        x.fire(63, 0, 1);
        Check.days(x, 5);
        // 14 by 4: the fall of DAY 0 is known on DAY 3, the fire of DAY 2 on DAY 5
        for (int k = 0; k <= 7; k++) {
            for (int d = 0; d <= k; d++) {
                int due = k < 3 ? -1 : k < 5 || d < 2 ? 0 : 3;
                Edge.is(x, due, "knew", 0, d, k);
            }
        }
    }

    private static void changesOfADay() {
        Edge.says("by the last change of that DAY or ahead");
        TimberValley x = new TimberValley();
        x.mill(5);
        x.crew(0);
        x.stand(5, 0, 0, 1);
        x.fall(0, 5, 0, 0, 4);
        Edge.is(x, 0, "knew", 0, 0, 0);
        x.day();
        // it fell and came to the pond on DAY 0, and is sawn on DAY 1
        Edge.is(x, 1, "knew", 0, 0, 0);
        Edge.is(x, 1, "knew", 0, 1, 1);
        x.saw(0);
        Edge.is(x, 2, "knew", 0, 1, 1);
        Edge.is(x, 1, "knew", 0, 0, 1);
        Edge.is(x, 1, "knew", 0, 0, 0);
    }

    private static void whatCanBecome() {
        Edge.says("later they are in the POND (1), SAWN (2), BURNT (3) or SUNK (4).");
        TimberValley x = Edge.made(RICH);
        int[] logs = {4, 1, 0, 12, 11};
        for (int became = 0; became <= 4; became++) {
            Edge.is(x, became, "log", logs[became], 6);
        }
        // log 12 burnt on DAY 4 in CELL 63, 12 far: known on DAY 7
        Edge.is(x, 0, "knew", 12, 6, 6);
        x.day();
        Edge.is(x, 3, "knew", 12, 4, 7);
        Edge.is(x, 0, "knew", 12, 3, 7);
        Edge.is(x, 0, "knew", 12, 6, 6);
    }

    private static void inItsCellThen() {
        Edge.says("a change in a CELL is known FAR by 4 DAYS later");
        TimberValley x = new TimberValley();
        x.mill(0);
        x.crew(0);
        x.stand(5, 0, 0, 1);
        for (int cell = 5; cell > 0; cell--) {
            x.way(0, cell, cell - 1);
        }
        x.fall(0, 5, 0, 0, 4);
        Check.days(x, 8);
        // it fell 5 far, known a DAY later; it came to the mill as DAY 5 went by, known at once
        Edge.is(x, -1, "knew", 0, 0, 0);
        Edge.is(x, 0, "knew", 0, 0, 1);
        Edge.is(x, 0, "knew", 0, 4, 5);
        Edge.is(x, 1, "knew", 0, 5, 5);
        Edge.is(x, 0, "knew", 0, 4, 8);
        Edge.is(x, 1, "knew", 0, 8, 8);
    }

    private static void alterNumbers() {
        Edge.says("A number of a LOG (place 0 to 4) in THE REGISTER is altered by a mask. False: no such ones.");
        for (int log : new int[] {-1, 17, LOW, HIGH}) {
            Edge.refuses(RICH, 0, "alter", log, 0, 1);
        }
        for (int place : new int[] {-1, 5, LOW, HIGH}) {
            Edge.refuses(RICH, 0, "alter", 1, place, 1);
        }
        for (int mask : new int[] {0, -1, 65536, LOW, HIGH}) {
            Edge.refuses(RICH, 0, "alter", 1, 0, mask);
        }
        for (int place = 0; place <= 4; place++) {
            Edge.changes(RICH, 1, "alter", 16, place, 1);
            Edge.changes(RICH, 1, "alter", 1, place, 65535);
        }
    }

    /** LOG 0: CELL 33, SORT 2, 3 UNITS, 30 WIDE, DAY 7. */
    private static TimberValley registered() {
        TimberValley x = new TimberValley();
        x.crew(0);
        x.stand(33, 2, 3, 5);
        Check.days(x, 7);
        x.fall(0, 33, 2, 3, 3);
        return x;
    }

    private static void alterMasks() {
        Edge.says("A number may be altered by a mask (1 to 65535): it becomes what exclusive or makes of both.");
        int[] numbers = {33, 2, 3, 30, 7};
        for (int place = 0; place < 5; place++) {
            for (int mask = 1; mask <= 65535; mask = mask * 2 + 1) {
                TimberValley x = registered();
                Edge.is(x, 1, "alter", 0, place, mask);
                Edge.is(x, place, "checked", 0, 0);
                Edge.is(x, numbers[place], "checked", 0, 1);
                Edge.is(x, 1, "alter", 0, place, mask);
                Edge.is(x, -1, "checked", 0, 0);
            }
        }
    }

    private static void checkedNumbers() {
        Edge.says("CHECKED: what 0 the place (NONE: both are right; -2: there is none), 1 the number it is to be put to. "
                + "-3: no such LOG, what; for what 1 without such a place, too.");
        for (int log : new int[] {-1, 17, LOW, HIGH}) {
            Edge.refuses(RICH, -3, "checked", log, 0);
            Edge.refuses(RICH, -3, "checked", log, 1);
        }
        for (int what : new int[] {-1, 2, LOW, HIGH}) {
            Edge.refuses(RICH, -3, "checked", 0, what);
            Edge.refuses(RICH, -3, "checked", 1, what);
            Edge.refuses(RICH, -3, "checked", 2, what);
        }
        Edge.refuses(Valleys::empty, -3, "checked", 0, 0);
        // log 0 has one place that is wrong, log 1 none, log 2 two
        TimberValley x = Edge.made(RICH);
        int[][] due = {{3, 29}, {-1, -3}, {-2, -3}};
        for (int log = 0; log < 3; log++) {
            Edge.is(x, due[log][0], "checked", log, 0);
            Edge.is(x, due[log][1], "checked", log, 1);
        }
    }

    private static void bothAreRight() {
        Edge.says("CHECKED: both sums are right");
        TimberValley x = registered();
        Edge.is(x, -1, "checked", 0, 0);
        // 1 more, 2 less and 1 more in a row: both sums are as they were
        Edge.is(x, 1, "alter", 0, 0, 33 ^ 34);
        Edge.is(x, 1, "alter", 0, 1, 2 ^ 0);
        Edge.is(x, 1, "alter", 0, 2, 3 ^ 4);
        Edge.is(x, -1, "checked", 0, 0);
        Edge.is(x, -3, "checked", 0, 1);
    }

    private static void onePlace() {
        Edge.says("or there is one place whose number, put to another one (0 to 65535), makes both right");
        TimberValley x = registered();
        // 2 less at 0 and at 2 look like 4 less at 1: put to 4 more it makes both right
        Edge.is(x, 1, "alter", 0, 0, 33 ^ 31);
        Edge.is(x, 1, "alter", 0, 2, 3 ^ 1);
        Edge.is(x, 1, "checked", 0, 0);
        Edge.is(x, 2 + 4, "checked", 0, 1);
    }

    private static void orNone() {
        Edge.says("makes both right; or none.");
        TimberValley x = registered();
        Edge.is(x, 1, "alter", 0, 0, 33 ^ 34);
        Edge.is(x, 1, "alter", 0, 1, 2 ^ 1);
        // the sum of all is right, the other one isn't
        Edge.is(x, -2, "checked", 0, 0);
        Edge.is(x, -3, "checked", 0, 1);
        // 1 more at 0 and 5 less at 4: a place behind the last one would make both right
        TimberValley z = registered();
        Edge.is(z, 1, "alter", 0, 0, 33 ^ 34);
        Edge.is(z, 1, "alter", 0, 4, 7 ^ 2);
        Edge.is(z, -2, "checked", 0, 0);
        Edge.is(z, -3, "checked", 0, 1);
        TimberValley y = registered();
        Edge.is(y, 1, "alter", 0, 0, 33 ^ 34);
        Edge.is(y, 1, "alter", 0, 4, 7 ^ 3);
        Edge.is(y, -2, "checked", 0, 0);
        Edge.is(y, -3, "checked", 0, 1);
    }

    private static void restsBy65537() {
        Edge.says("and two sums of them as it came, rests by 65537: of all, and of each times its place and 1.");
        TimberValley x = registered();
        // 2 more at 0 and 2 more at 2 look like 4 more at 1, which has 2: 65537 less 2 is 65535
        Edge.is(x, 1, "alter", 0, 0, 33 ^ 35);
        Edge.is(x, 1, "alter", 0, 2, 3 ^ 5);
        Edge.is(x, 1, "checked", 0, 0);
        Edge.is(x, 65535, "checked", 0, 1);
        TimberValley y = new TimberValley();
        y.crew(0);
        y.stand(33, 1, 3, 1);
        y.fall(0, 33, 1, 3, 3);
        // 2 more at 1, which has 1: 65536 is no number of 0 to 65535
        Edge.is(y, 1, "alter", 0, 0, 33 ^ 34);
        Edge.is(y, 1, "alter", 0, 2, 3 ^ 4);
        Edge.is(y, -2, "checked", 0, 0);
        Edge.is(y, -3, "checked", 0, 1);
        // all five at their greatest
        TimberValley z = registered();
        int[] numbers = {33, 2, 3, 30, 7};
        for (int place = 0; place < 5; place++) {
            Edge.is(z, 1, "alter", 0, place, numbers[place] ^ 65535);
        }
        Edge.is(z, -2, "checked", 0, 0);
        for (int place = 0; place < 5; place++) {
            Edge.is(z, 1, "alter", 0, place, numbers[place] ^ 65535);
        }
        Edge.is(z, -1, "checked", 0, 0);
    }

    private static void anotherOne() {
        Edge.says("put to another one (0 to 65535)");
        TimberValley x = new TimberValley();
        x.crew(0);
        x.stand(0, 0, 3, 1);
        x.fall(0, 0, 0, 3, 2);
        // CELL 0, SORT 0 and DAY 0: the least number there is
        for (int place : new int[] {0, 1, 4}) {
            for (int mask : new int[] {1, 65535}) {
                Edge.is(x, 1, "alter", 0, place, mask);
                Edge.is(x, place, "checked", 0, 0);
                Edge.is(x, 0, "checked", 0, 1);
                Edge.is(x, 1, "alter", 0, place, mask);
            }
        }
        // 2 less at 1 look like 1 less at 0 and at 2; SORT 0 has none to give
        Edge.is(x, 1, "alter", 0, 0, 1);
        Edge.is(x, 1, "alter", 0, 2, 2 ^ 3);
        Edge.is(x, 1, "checked", 0, 0);
        Edge.is(x, 65535, "checked", 0, 1);
    }

    private static void asItCame() {
        Edge.says("THE REGISTER has of each LOG five numbers (CELL where it fell, SORT, UNITS, WIDE, DAY)");
        TimberValley x = registered();
        x.way(0, 33, 34);
        Check.days(x, 3);
        Edge.is(x, 34, "log", 0, 0);
        Edge.is(x, -1, "checked", 0, 0);
        int[] numbers = {33, 2, 3, 30, 7};
        for (int place = 0; place < 5; place++) {
            Edge.is(x, 1, "alter", 0, place, 4);
            Edge.is(x, numbers[place], "checked", 0, 1);
            Edge.is(x, 1, "alter", 0, place, 4);
        }
        x.fire(34, 0, 1);
        Edge.is(x, -1, "checked", 0, 0);
        // a LOG's numbers are its own
        x.fall(0, 33, 2, 3, 3);
        x.alter(0, 0, 9);
        Edge.is(x, -1, "checked", 1, 0);
        Edge.is(x, 0, "checked", 0, 0);
    }

    private static void nothingElseAsks() {
        Edge.says("(Nothing else asks THE REGISTER.)");
        TimberValley x = registered();
        int[] before = new int[9];
        for (int what = 0; what <= 8; what++) {
            before[what] = x.log(0, what);
        }
        for (int place = 0; place < 5; place++) {
            x.alter(0, place, 21845);
        }
        for (int what = 0; what <= 8; what++) {
            Edge.is(x, before[what], "log", 0, what);
        }
        Edge.is(x, 126, "scale", 0, 0);
        Edge.is(x, 1, "of", 33, 2);
        x.way(0, 33, 34);
        Edge.is(x, 0, "day");
        Edge.is(x, 1, "day");
    }
}
