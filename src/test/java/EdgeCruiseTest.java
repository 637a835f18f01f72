/** The edges of CRUISES and of promises 45 to 48: rows with holes. */
public final class EdgeCruiseTest {
    private static final Edge.Run RICH = Valleys::rich;
    private static final int LOW = Integer.MIN_VALUE;
    private static final int HIGH = Integer.MAX_VALUE;
    private static final int HOLE = -32768;

    public static void main(String[] args) {
        rowNumbers();
        inPlaceOfAnother();
        fortyPlaces();
        writeNumbers();
        sixteenBits();
        fourths();
        beyondAMillion();
        holes();
        nextOnEitherSide();
        withoutAny();
        eachNumbers();
        sums();
        greatestLessLeast();
        cruiseNumbers();
        Check.end();
    }

    private static void rowNumbers() {
        Edge.says("A row (0 to 3) of n (0 to 40) numbers of 16 bits, or of floats, all 0, in place of another one. "
                + "False: no such row, n.");
        for (int r : new int[] {-1, 4, LOW, HIGH}) {
            Edge.refuses(RICH, 0, "row", r, false, 5);
            Edge.refuses(RICH, 0, "row", r, true, 5);
        }
        for (int n : new int[] {-1, 41, LOW, HIGH}) {
            Edge.refuses(RICH, 0, "row", 0, false, n);
            Edge.refuses(RICH, 0, "row", 1, true, n);
            Edge.refuses(RICH, 0, "row", 2, true, n);
        }
        for (int r = 0; r < 3; r++) {
            Edge.changes(RICH, 1, "row", r, false, 0);
            Edge.changes(RICH, 1, "row", r, true, 40);
        }
        Edge.changes(RICH, 1, "row", 3, false, 1);
    }

    private static void inPlaceOfAnother() {
        Edge.says("all 0, in place of another one.");
        for (int r = 0; r < 4; r++) {
            TimberValley x = new TimberValley();
            Edge.is(x, -1, "cruise", r, 0);
            for (int kind = 0; kind < 4; kind++) {
                boolean floats = kind == 1 || kind == 2;
                Edge.is(x, 1, "row", r, floats, 3);
                for (int place = 0; place < 3; place++) {
                    Edge.is(x, 0, "each", r, place);
                }
                Edge.is(x, 1, "write", r, 0, 3);
                Edge.is(x, 1, "write", r, 1, HOLE);
                Edge.is(x, 1, "write", r, 2, 3);
                Edge.is(x, floats ? 6 : 24, "each", r, 1);
            }
            // no hole is left of the row that was there
            Edge.is(x, 1, "row", r, false, 3);
            Edge.is(x, 1, "write", r, 0, 9);
            Edge.is(x, 0, "each", r, 1);
            Edge.is(x, 1, "row", r, false, 2);
            Edge.is(x, 0, "cruise", r, 0);
            Edge.is(x, Edge.THROWS, "each", r, 2);
            Edge.is(x, 1, "row", r, false, 3);
            Edge.is(x, 0, "each", r, 2);
            for (int other = 0; other < 4; other++) {
                Edge.is(x, other == r ? 0 : -1, "cruise", other, 0);
            }
        }
    }

    private static void fortyPlaces() {
        Edge.says("CRUISES: a row of 16-bit numbers or of floats (at most 40), written by places.");
        for (int n : new int[] {0, 1, 2, 39, 40}) {
            for (int r = 0; r < 4; r++) {
                TimberValley x = new TimberValley();
                Edge.is(x, 1, "row", r, r % 2 == 0, n);
                Edge.is(x, 0, "write", r, n, 1);
                Edge.is(x, 0, "write", r, -1, 1);
                Edge.is(x, Edge.THROWS, "each", r, n);
                Edge.is(x, 0, "cruise", r, 0);
                for (int place = 0; place < n; place++) {
                    Edge.is(x, 1, "write", r, place, place + 1);
                }
                for (int place = 0; place < n; place++) {
                    Edge.is(x, (r % 2 == 0 ? 2 : 8) * (place + 1), "each", r, place);
                }
                Edge.is(x, (r % 2 == 0 ? 1 : 4) * n * (n + 1), "cruise", r, 0);
            }
        }
    }

    private static void writeNumbers() {
        Edge.says("False: no such row, place; of floats, another one beyond -1000000 to 1000000.");
        for (int r : new int[] {-1, 2, 4, LOW, HIGH}) {
            Edge.refuses(RICH, 0, "write", r, 0, 1);
        }
        for (int place : new int[] {-1, 4, 40, LOW, HIGH}) {
            Edge.refuses(RICH, 0, "write", 0, place, 1);
        }
        for (int place : new int[] {-1, 6, 40, LOW, HIGH}) {
            Edge.refuses(RICH, 0, "write", 1, place, 1);
        }
        Edge.refuses(RICH, 0, "write", 3, 0, 1);
        Edge.changes(RICH, 1, "write", 0, 0, 1);
        Edge.changes(RICH, 1, "write", 0, 3, 1);
        Edge.changes(RICH, 1, "write", 1, 0, 1);
        Edge.changes(RICH, 1, "write", 1, 5, 1);
    }

    private static void sixteenBits() {
        Edge.says("A number is written (16 bits alone are kept; of floats: a fourth of it); a hole for -32768.");
        int[][] kept = {{32767, 32767}, {32769, -32767}, {65535, -1}, {65536, 0}, {65537, 1}, {-1, -1},
            {-32767, -32767}, {-32769, 32767}, {-65536, 0}, {-65537, -1}, {HIGH, -1}, {LOW, 0}, {LOW + 1, 1},
            {1000001, 16961}, {-1000001, -16961}};
        for (int[] one : kept) {
            TimberValley x = new TimberValley();
            x.row(0, false, 1);
            Edge.is(x, 1, "write", 0, 0, one[0]);
            Edge.is(x, 8 * one[1], "each", 0, 0);
        }
        for (int hole : new int[] {HOLE, 32768, 98304, -98304, LOW + 32768, HIGH - 32767}) {
            TimberValley x = new TimberValley();
            x.row(0, false, 1);
            Edge.is(x, 1, "write", 0, 0, hole);
            Edge.is(x, Edge.THROWS, "each", 0, 0);
        }
    }

    private static void fourths() {
        Edge.says("of floats: a fourth of it");
        for (int v : new int[] {0, 1, 2, 3, 4, 5, -1, -2, -3, -4, -5, 32767, 32768, -32767, -32769, 65536, 999999,
            1000000, -999999, -1000000}) {
            TimberValley x = new TimberValley();
            x.row(3, true, 1);
            Edge.is(x, 1, "write", 3, 0, v);
            Edge.is(x, 2 * v, "each", 3, 0);
            Edge.is(x, 2 * v, "cruise", 3, 0);
        }
    }

    private static void beyondAMillion() {
        Edge.says("of floats, another one beyond -1000000 to 1000000.");
        for (int v : new int[] {1000001, -1000001, LOW, HIGH}) {
            Edge.refuses(RICH, 0, "write", 1, 1, v);
            Edge.refuses(RICH, 0, "write", 1, 2, v);
        }
        Edge.changes(RICH, 1, "write", 1, 1, 1000000);
        Edge.changes(RICH, 1, "write", 1, 1, -1000000);
        Edge.changes(RICH, 1, "write", 1, 1, HOLE);
    }

    /** A row of numbers written; a point stands for a hole. */
    private static TimberValley written(boolean floats, String... numbers) {
        TimberValley x = new TimberValley();
        x.row(0, floats, numbers.length);
        for (int place = 0; place < numbers.length; place++) {
            int v = numbers[place].equals(".") ? HOLE : Integer.parseInt(numbers[place]);
            Edge.is(x, 1, "write", 0, place, v);
        }
        return x;
    }

    private static void seen(TimberValley x, int... eighths) {
        for (int place = 0; place < eighths.length; place++) {
            Edge.is(x, eighths[place], "each", 0, place);
        }
        Edge.is(x, Edge.THROWS, "each", 0, eighths.length);
    }

    private static void holes() {
        Edge.says("EACH place: what is there; a hole (-32768; a float that is no number) is the sum of its neighbours "
                + "that are not holes");
        seen(written(false, "5", ".", "8"), 40, 52, 64);
        seen(written(true, "5", ".", "8"), 10, 13, 16);
        seen(written(true, "1", ".", "0"), 2, 1, 0);
        seen(written(true, "-1", ".", "0"), -2, -1, 0);
        seen(written(false, "-5", ".", "8"), -40, 12, 64);
        seen(written(false, "-5", ".", "4"), -40, -4, 32);
        seen(written(false, "32767", ".", "32767"), 262136, 262136, 262136);
        seen(written(false, "-32767", ".", "32767"), -262136, 0, 262136);
        seen(written(true, "1000000", ".", "999999"), 2000000, 1999999, 1999998);
    }

    private static void nextOnEitherSide() {
        Edge.says("(the next one on either side, as far as it takes) by how many these are; without any no number.");
        seen(written(false, ".", "3"), 24, 24);
        seen(written(false, "3", "."), 24, 24);
        seen(written(false, ".", ".", "3", ".", "."), 24, 24, 24, 24, 24);
        seen(written(false, "1", ".", ".", ".", "4"), 8, 20, 20, 20, 32);
        seen(written(false, "1", ".", "4", ".", "6", "."), 8, 20, 32, 40, 48, 48);
        String[] far = new String[40];
        java.util.Arrays.fill(far, ".");
        far[0] = "2";
        far[39] = "5";
        int[] due = new int[40];
        java.util.Arrays.fill(due, 28);
        due[0] = 16;
        due[39] = 40;
        seen(written(false, far), due);
        far[39] = ".";
        java.util.Arrays.fill(due, 16);
        seen(written(false, far), due);
        // a neighbour in another row is none
        TimberValley x = new TimberValley();
        x.row(0, false, 40);
        x.row(1, false, 1);
        x.row(2, false, 1);
        x.write(0, 39, 9);
        x.write(1, 0, HOLE);
        Edge.is(x, Edge.THROWS, "each", 1, 0);
        Edge.is(x, 0, "cruise", 1, 0);
    }

    private static void withoutAny() {
        Edge.says("without any no number.");
        for (boolean floats : new boolean[] {false, true}) {
            TimberValley one = written(floats, ".");
            Edge.is(one, Edge.THROWS, "each", 0, 0);
            Edge.is(one, 0, "cruise", 0, 0);
            Edge.is(one, 0, "cruise", 0, 1);
            TimberValley x = written(floats, ".", ".", ".");
            for (int place = 0; place < 3; place++) {
                Edge.is(x, Edge.THROWS, "each", 0, place);
            }
            Edge.is(x, 0, "cruise", 0, 0);
            Edge.is(x, 0, "cruise", 0, 1);
            x.write(0, 2, 4);
            seen(x, floats ? 8 : 32, floats ? 8 : 32, floats ? 8 : 32);
            x.write(0, 2, HOLE);
            Edge.is(x, Edge.THROWS, "each", 0, 2);
        }
    }

    private static void eachNumbers() {
        Edge.says("EACH place, in eighths. NoSuchElementException: no such row, place, no number.");
        for (int r : new int[] {-1, 2, 4, LOW, HIGH}) {
            Edge.refuses(RICH, Edge.THROWS, "each", r, 0);
        }
        for (int place : new int[] {-1, 4, 40, LOW, HIGH}) {
            Edge.refuses(RICH, Edge.THROWS, "each", 0, place);
        }
        Edge.refuses(RICH, Edge.THROWS, "each", 3, 0);
        TimberValley x = Edge.made(RICH);
        int[] due = {40, 52, 64, 0};
        for (int place = 0; place < 4; place++) {
            Edge.is(x, due[place], "each", 0, place);
        }
        int[] floats = {0, 18, 5, -8, 0, 0};
        for (int place = 0; place < 6; place++) {
            Edge.is(x, floats[place], "each", 1, place);
        }
    }

    private static void sums() {
        Edge.says("Told of a row, in eighths: what 0 its sum, 1 the greatest less the least "
                + "(places that are no number aside; 0 without any). NONE: there is none.");
        Edge.is(written(false, "5", ".", "8", "0"), 156, "cruise", 0, 0);
        Edge.is(written(false, ".", "5"), 80, "cruise", 0, 0);
        Edge.is(written(false, "-5", "5"), 0, "cruise", 0, 0);
        Edge.is(written(true, "-1", ".", "-2"), -9, "cruise", 0, 0);
        TimberValley x = new TimberValley();
        x.row(0, true, 40);
        x.row(1, false, 40);
        for (int place = 0; place < 40; place++) {
            x.write(0, place, -1000000);
            x.write(1, place, -32767);
        }
        Edge.is(x, -80000000, "cruise", 0, 0);
        Edge.is(x, -40 * 8 * 32767, "cruise", 1, 0);
        x.write(0, 39, -999999);
        Edge.is(x, -79999998, "cruise", 0, 0);
    }

    private static void greatestLessLeast() {
        Edge.says("Told of a row: its sum, the greatest less the least.");
        Edge.is(written(false, "5"), 0, "cruise", 0, 1);
        Edge.is(written(false, "5", ".", "8", "0"), 64, "cruise", 0, 1);
        Edge.is(written(false, "5", ".", "8"), 24, "cruise", 0, 1);
        Edge.is(written(false, "-5", "-8"), 24, "cruise", 0, 1);
        Edge.is(written(false, "3", "9", "4"), 48, "cruise", 0, 1);
        Edge.is(written(false, "9", "3", "4"), 48, "cruise", 0, 1);
        Edge.is(written(false, "4", "3", "9"), 48, "cruise", 0, 1);
        Edge.is(written(true, "1000000", "-1000000"), 4000000, "cruise", 0, 1);
        Edge.is(written(false, "32767", "-32767"), 8 * 65534, "cruise", 0, 1);
        Edge.is(written(false, ".", "7", "."), 0, "cruise", 0, 1);
    }

    private static void cruiseNumbers() {
        Edge.says("(places that are no number aside; 0 without any). NONE: there is none.");
        for (int r : new int[] {-1, 2, 4, LOW, HIGH}) {
            Edge.refuses(RICH, -1, "cruise", r, 0);
            Edge.refuses(RICH, -1, "cruise", r, 1);
        }
        for (int what : new int[] {-1, 2, LOW, HIGH}) {
            Edge.refuses(RICH, -1, "cruise", 0, what);
            Edge.refuses(RICH, -1, "cruise", 3, what);
        }
        Edge.refuses(RICH, 0, "cruise", 3, 0);
        Edge.refuses(RICH, 0, "cruise", 3, 1);
        TimberValley x = Edge.made(RICH);
        Edge.is(x, 156, "cruise", 0, 0);
        Edge.is(x, 64, "cruise", 0, 1);
        Edge.is(x, 15, "cruise", 1, 0);
        Edge.is(x, 26, "cruise", 1, 1);
    }
}
