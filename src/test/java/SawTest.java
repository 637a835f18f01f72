import java.util.Random;

/** Promises 33 to 36 and 55: orders, and logs sawn for them; every row of boards is tried. */
public final class SawTest {
    private static int[] thick;
    private static int[] price;
    private static int best;
    private static int[] bestRow;

    public static void main(String[] args) {
        numbers();
        stockAndShips();
        byUnits();
        for (int seed = 0; seed < 60; seed++) {
            against(new Random(seed));
        }
        Check.end();
    }

    private static TimberValley pond(int sort, int c, int row, int cell, int taper) {
        TimberValley x = new TimberValley();
        x.mill(cell);
        x.crew(0);
        x.sort(sort, 20, taper);
        x.stand(cell, sort, c, 9);
        x.fall(0, cell, sort, c, row);
        Check.is("not in the pond", -1, x.best(0));
        Check.is("not in the pond", -1, x.board(0, 0));
        Check.is("not in the pond", -1, x.saw(0));
        x.day();
        return x;
    }

    private static void numbers() {
        TimberValley x = pond(0, 0, 4, 0, 1);
        Check.is("thick", -1, x.order(0, 2, 1, 1, 5));
        Check.is("thick", -1, x.order(13, 2, 1, 1, 5));
        Check.is("units", -1, x.order(1, 1, 1, 1, 5));
        Check.is("units", -1, x.order(1, 7, 1, 1, 5));
        Check.is("boards", -1, x.order(1, 2, 0, 1, 5));
        Check.is("boards", -1, x.order(1, 2, 100, 1, 5));
        Check.is("price", -1, x.order(1, 2, 1, 0, 5));
        Check.is("price", -1, x.order(1, 2, 1, 100, 5));
        Check.is("ship", -1, x.order(1, 2, 1, 1, 0));
        Check.is("ship", -1, x.order(1, 2, 1, 1, 4000));
        Check.is("best without orders", 0, x.best(0));
        Check.is("board", -2, x.board(0, 0));
        Check.is("place", -1, x.board(0, 6));
        Check.is("place", -1, x.board(0, -1));
        Check.is("log", -1, x.best(1));
        Check.is("log", -1, x.best(-1));
        Check.is("log", -1, x.board(1, 0));
        Check.is("log", -1, x.saw(1));
        Check.is("ship today", 0, x.order(12, 6, 99, 99, 1));
        Check.is("ship", 1, x.order(1, 2, 1, 1, 3999));
        for (int i = 2; i < 30; i++) {
            Check.is("order", i, x.order(1, 2, 1, 1, 5));
        }
        Check.is("30 came", -1, x.order(1, 2, 1, 1, 5));
        Check.is("orders", 30, x.count(7));
        Check.is("lacks", 99, x.orderOf(0, 0));
        Check.is("not met", -1, x.orderOf(0, 1));
        Check.none("not met", () -> x.orderOf(0, 2));
        Check.none("order", () -> x.orderOf(30, 0));
        Check.none("order", () -> x.orderOf(-1, 0));
        Check.none("what", () -> x.orderOf(0, 3));
        Check.none("what", () -> x.orderOf(0, -1));
    }

    private static void stockAndShips() {
        TimberValley x = pond(0, 3, 22, 3, 1);
        // wide 29 and 27; faults: 3 by 32 at 3, 10 by 30 at 10
        Check.is("fault", 3, x.log(0, 8));
        Check.is("fault", 10, x.log(1, 8));
        Check.is("order", 0, x.order(4, 2, 3, 20, 2));
        Check.is("order", 1, x.order(1, 2, 50, 1, 1));
        // from place 4 on five boards of 4 and the saw end at 29: the last without the saw
        Check.is("best: five of 20, and two of 1 ahead", 5 * 20 + 2, x.best(0));
        Check.is("board", 1, x.board(0, 0));
        Check.is("the saw's", -2, x.board(0, 1));
        Check.is("board", 1, x.board(0, 2));
        Check.is("the saw may go through the fault", -2, x.board(0, 3));
        Check.is("behind it", 0, x.board(0, 4));
        Check.is("within", -2, x.board(0, 5));
        Check.is("at the end", 0, x.board(0, 24));
        Check.is("saw", 7, x.saw(0));
        Check.is("met", 0, x.orderOf(0, 0));
        Check.is("met", 1, x.orderOf(0, 1));
        Check.is("early", 1, x.orderOf(0, 2));
        Check.is("stock", 2, x.count(8));
        Check.is("lacks", 48, x.orderOf(1, 0));
        Check.is("sawn", 2, x.log(0, 6));
        Check.is("sawn", 1, x.count(22));
        Check.is("again", -1, x.saw(0));
        Check.is("it lacks none: order 1 alone", 13, x.best(1));
        x.day();
        Check.is("its ship has gone", 0, x.best(1));
        Check.is("order", 2, x.order(12, 2, 1, 5, 2));
        Check.is("12 from 11 on, as 10 has the fault", 5, x.best(1));
        Check.is("left", -2, x.board(1, 0));
        Check.is("just behind the fault", 2, x.board(1, 11));
        Check.is("saw", 1, x.saw(1));
        Check.is("met on its ship's day", 2, x.orderOf(2, 1));
        Check.is("early", 0, x.orderOf(2, 2));
    }

    private static void byUnits() {
        TimberValley x = pond(0, 2, 3, 0, 1);
        x.order(2, 4, 9, 50, 9);
        x.order(2, 3, 9, 1, 9);
        Check.is("units 3 alone", 1, x.log(0, 2) == 3 ? 1 : 0);
        Check.is("order 1", 1, x.board(0, 1));
    }

    private static void against(Random random) {
        int sort = random.nextInt(4);
        int c = random.nextInt(2);
        int units = 2 + random.nextInt(3);
        TimberValley x = pond(sort, c, units, random.nextInt(64), 1 + random.nextInt(3));
        int many = 1 + random.nextInt(4);
        thick = new int[many];
        price = new int[many];
        int day = x.count(0);
        for (int i = 0; i < many; i++) {
            thick[i] = 1 + random.nextInt(5);
            price[i] = 1 + random.nextInt(random.nextBoolean() ? 3 : 20);
            int needed = 2 + random.nextInt(4);
            x.order(thick[i], needed, 99, price[i], day + random.nextInt(2));
            if (needed > units) {
                thick[i] = 1000;
            }
        }
        int wide = x.log(0, 3);
        int fault = x.log(0, 8);
        best = -1;
        tryRows(wide, fault, 0, 0, new int[wide + 1]);
        Check.is("best", best, x.best(0));
        int boards = 0;
        for (int place = 0; place < wide; place++) {
            Check.is("board at " + place, bestRow[place], x.board(0, place));
            boards += bestRow[place] >= 0 ? 1 : 0;
        }
        Check.is("saw", boards, x.saw(0));
    }

    /** Rows come in their order, so the first of the best stays. */
    private static void tryRows(int wide, int fault, int at, int sum, int[] row) {
        if (at >= wide) {
            if (sum > best) {
                best = sum;
                bestRow = row.clone();
            }
            return;
        }
        for (int i = 0; i < thick.length; i++) {
            int end = at + thick[i];
            if (end <= wide && !(fault >= at && fault < end)) {
                row[at] = i;
                for (int p = at + 1; p <= end; p++) {
                    row[p] = -2;
                }
                tryRows(wide, fault, end == wide ? wide : end + 1, sum + price[i], row);
            }
        }
        row[at] = -2;
        tryRows(wide, fault, at + 1, sum, row);
    }
}
