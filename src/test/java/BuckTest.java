/** Promises 8 to 11: prices, and stems cut to pieces. Every row is tried against the answers. */
public final class BuckTest {
    private static int[] prices = {0, 0, 10, 10, 10, 10, 10};
    private static int[] tapers = {1, 1, 1, 1};
    private static int best;
    private static String bestRow;

    public static void main(String[] args) {
        wrong();
        rows();
        TimberValley x = new TimberValley();
        compareAll(x);
        int seed = 12345;
        for (int round = 0; round < 40; round++) {
            for (int units = 2; units <= 6; units++) {
                seed = seed * 1103515245 + 12345;
                prices[units] = (seed >>> 16) % (round % 3 == 0 ? 3 : 100);
                Check.yes("price", x.price(units, prices[units]));
            }
            int sort = round % 4;
            tapers[sort] = 1 + (seed >>> 20) % 3;
            Check.yes("sort", x.sort(sort, 20, tapers[sort]));
            compareAll(x);
        }
        Check.end();
    }

    private static void wrong() {
        TimberValley x = new TimberValley();
        Check.no("units", x.price(1, 5));
        Check.no("units", x.price(7, 5));
        Check.no("v", x.price(2, 100));
        Check.no("v", x.price(2, -1));
        Check.yes("v", x.price(2, 99));
        Check.yes("v", x.price(2, 0));
        Check.is("sort", -1, x.buck(4, 0));
        Check.is("sort", -1, x.buck(-1, 0));
        Check.is("class", -1, x.buck(0, 4));
        Check.is("class", -1, x.buck(0, -1));
        Check.is("sort", -1, x.piece(4, 0, 0));
        Check.is("class", -1, x.piece(0, 4, 0));
        Check.is("i", -1, x.piece(0, 0, -1));
        Check.is("i", -1, x.piece(0, 3, 5));
        Check.is("i", -1, x.piece(0, 3, Integer.MAX_VALUE));
        Check.is("sort", -1, x.worth(4, 0, 2));
        Check.is("class", -1, x.worth(0, -1, 2));
    }

    private static void rows() {
        TimberValley x = new TimberValley();
        for (int units = 2; units <= 6; units++) {
            Check.is("10 at first each", 10 * (31 - units), x.worth(0, 3, units));
        }
        Check.is("row", 10 * 29 + 10 * 26, x.worth(0, 3, 23));
        Check.is("row", 10 * 28 + 10 * 26, x.worth(0, 3, 32));
        Check.is("row", 10 * (29 + 27 + 25 + 23 + 21), x.worth(0, 3, 22222));
        Check.is("as long as the stem", 10 * (25 + 21), x.worth(0, 3, 64));
        Check.is("longer", -1, x.worth(0, 3, 65));
        Check.is("longer", -1, x.worth(0, 3, 222222));
        Check.is("no piece", -1, x.worth(0, 3, 0));
        Check.is("no piece", -1, x.worth(0, 3, -22));
        Check.is("no such piece", -1, x.worth(0, 3, 12));
        Check.is("no such piece", -1, x.worth(0, 3, 27));
        Check.is("no such piece", -1, x.worth(0, 3, 202));
        Check.is("no such piece", -1, x.worth(0, 3, Integer.MAX_VALUE));
        Check.is("no such piece", -1, x.worth(0, 3, Integer.MIN_VALUE));
    }

    private static void compareAll(TimberValley x) {
        for (int sort = 0; sort < 4; sort++) {
            for (int c = 0; c < 4; c++) {
                best = -1;
                bestRow = "";
                tryRows(sort, c, 0, 0, "");
                Check.is("buck", best, x.buck(sort, c));
                for (int i = 0; i <= bestRow.length(); i++) {
                    int due = i < bestRow.length() ? bestRow.charAt(i) - '0' : -1;
                    Check.is("piece " + i + " of " + bestRow, due, x.piece(sort, c, i));
                }
                Check.is("worth of it", best, x.worth(sort, c, Integer.parseInt(bestRow)));
            }
        }
    }

    /** Rows come in their order, so the first of the best stays. */
    private static void tryRows(int sort, int c, int at, int sum, String row) {
        int length = 4 + 2 * c;
        if (length - at < 2) {
            if (sum > best) {
                best = sum;
                bestRow = row;
            }
            return;
        }
        for (int units = 2; units <= 6 && at + units <= length; units++) {
            int wide = Math.max(1, 10 + 7 * c + sort - tapers[sort] * (at + units));
            tryRows(sort, c, at + units, sum + prices[units] * wide, row + units);
        }
    }
}
