/** Promises 45 to 48: cruises in rows with holes. */
public final class CruiseTest {
    public static void main(String[] args) {
        rows();
        shorts();
        floats();
        holes();
        longRows();
        Check.end();
    }

    private static void rows() {
        TimberValley x = new TimberValley();
        Check.no("row", x.row(-1, false, 1));
        Check.no("row", x.row(4, false, 1));
        Check.no("n", x.row(0, false, -1));
        Check.no("n", x.row(0, true, 41));
        Check.is("none", -1, x.cruise(0, 0));
        Check.no("none", x.write(0, 0, 1));
        Check.none("none", () -> x.each(0, 0));
        Check.yes("row", x.row(0, false, 0));
        Check.is("empty", 0, x.cruise(0, 0));
        Check.is("empty", 0, x.cruise(0, 1));
        Check.no("empty", x.write(0, 0, 1));
        Check.none("empty", () -> x.each(0, 0));
        Check.yes("row", x.row(3, true, 40));
        Check.is("all 0", 0, x.each(3, 39));
        Check.yes("write", x.write(3, 39, 4));
        Check.is("a float: a fourth", 8, x.each(3, 39));
        Check.yes("in place of another one", x.row(3, false, 40));
        Check.is("all 0", 0, x.each(3, 39));
        Check.yes("write", x.write(3, 39, 4));
        Check.is("a 16-bit number", 32, x.each(3, 39));
        Check.yes("write", x.write(3, 0, -32768));
        Check.yes("row", x.row(2, false, 2));
        Check.yes("write", x.write(2, 0, 7));
        Check.yes("another row", x.row(3, false, 40));
        Check.yes("write", x.write(3, 39, 4));
        Check.yes("write", x.write(3, 1, 6));
        Check.is("no hole any more", 0, x.each(3, 0));
        Check.is("the others stay", 56, x.each(2, 0));
        Check.yes("no hole", x.row(2, false, 2));
        Check.yes("write", x.write(2, 1, 9));
        Check.is("place 1 counts", 72, x.cruise(2, 1));
        Check.is("the others stay", 48, x.each(3, 1));
        Check.yes("write", x.write(3, 1, 0));
        Check.no("a refused one", x.row(3, false, 41));
        Check.is("is as it was", 32, x.each(3, 39));
        Check.is("row", -1, x.cruise(-1, 0));
        Check.is("row", -1, x.cruise(4, 0));
        Check.is("what", -1, x.cruise(3, 2));
        Check.is("what", -1, x.cruise(3, -1));
        Check.none("row", () -> x.each(-1, 0));
        Check.none("row", () -> x.each(4, 0));
        Check.none("place", () -> x.each(3, -1));
        Check.none("place", () -> x.each(3, 40));
        Check.no("row", x.write(-1, 0, 0));
        Check.no("row", x.write(4, 0, 0));
        Check.no("place", x.write(3, -1, 0));
        Check.no("place", x.write(3, 40, 0));
    }

    private static void shorts() {
        TimberValley x = new TimberValley();
        x.row(1, false, 3);
        int[] written = {0, 1, -1, 32767, 32769, 65535, 65536, -32769, Integer.MAX_VALUE, 1 << 20};
        for (int v : written) {
            Check.yes("write", x.write(1, 1, v));
            Check.is("16 bits of " + v, 8 * (short) v, x.each(1, 1));
        }
        Check.yes("write", x.write(1, 0, 100));
        Check.yes("32768 is -32768 in 16 bits: a hole", x.write(1, 1, 32768));
        Check.is("a hole", 400, x.each(1, 1));
        Check.yes("and so is that", x.write(1, 2, Integer.MIN_VALUE + 32768));
        Check.is("a hole", 800, x.each(1, 2));
    }

    private static void floats() {
        TimberValley x = new TimberValley();
        x.row(1, true, 3);
        int[] written = {0, 1, -1, 3, 32768, -32767, 65536, 1000000, -1000000};
        for (int v : written) {
            Check.yes("write", x.write(1, 1, v));
            Check.is("a fourth of " + v, 2 * v, x.each(1, 1));
        }
        Check.no("beyond", x.write(1, 1, 1000001));
        Check.no("beyond", x.write(1, 1, -1000001));
        Check.no("beyond", x.write(1, 1, Integer.MIN_VALUE));
        Check.is("as it was", -2000000, x.each(1, 1));
        Check.yes("a hole", x.write(1, 1, -32768));
        x.write(1, 0, 1);
        x.write(1, 2, 2);
        Check.is("three eighths", 3, x.each(1, 1));
        Check.is("sum", 2 + 3 + 4, x.cruise(1, 0));
        Check.is("spread", 2, x.cruise(1, 1));
        x.write(1, 0, -1);
        x.write(1, 2, -2);
        Check.is("below 0", -3, x.each(1, 1));
        Check.is("sum", -9, x.cruise(1, 0));
    }

    private static void holes() {
        TimberValley x = new TimberValley();
        x.row(2, false, 6);
        int h = -32768;
        int[] written = {h, 3, h, h, -6, h};
        for (int i = 0; i < 6; i++) {
            x.write(2, i, written[i]);
        }
        int[] due = {24, 24, -12, -12, -48, -48};
        int sum = 0;
        for (int i = 0; i < 6; i++) {
            Check.is("each " + i, due[i], x.each(2, i));
            sum += due[i];
        }
        Check.is("sum", sum, x.cruise(2, 0));
        Check.is("spread", 72, x.cruise(2, 1));
        x.write(2, 1, h);
        Check.is("one neighbour", -48, x.each(2, 0));
        x.write(2, 4, h);
        for (int i = 0; i < 6; i++) {
            int place = i;
            Check.none("no number", () -> x.each(2, place));
        }
        Check.is("sum", 0, x.cruise(2, 0));
        Check.is("spread", 0, x.cruise(2, 1));
        x.write(2, 5, 0);
        Check.is("each", 0, x.each(2, 0));
    }

    private static void longRows() {
        TimberValley x = new TimberValley();
        x.row(0, true, 40);
        x.row(1, false, 40);
        for (int i = 0; i < 40; i++) {
            x.write(0, i, 1000000 - i % 2);
            x.write(1, i, i % 2 == 0 ? 32767 : -32767);
        }
        Check.is("no float's rounding", 80000000 - 40, x.cruise(0, 0));
        Check.is("spread", 2, x.cruise(0, 1));
        Check.is("sum", 0, x.cruise(1, 0));
        Check.is("spread", 8 * 65534, x.cruise(1, 1));
    }
}
