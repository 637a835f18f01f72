/** The edges of TO BUCK and TO FALL, and of promises 8 to 12 and 53: prices, pieces, logs. */
public final class EdgeStemTest {
    private static final Edge.Run RICH = Valleys::rich;
    private static final int LOW = Integer.MIN_VALUE;
    private static final int HIGH = Integer.MAX_VALUE;

    public static void main(String[] args) {
        lengths();
        widths();
        prices();
        leftAtTheTop();
        firstOfSeveral();
        buckNumbers();
        pieceNumbers();
        worthFigures();
        otherRows();
        fallNumbers();
        fallCodes();
        lastStem();
        asToBuck();
        threeHundred();
        faultPlaces();
        volumes();
        brandsAndDays();
        fallChanges();
        logNumbers();
        Check.end();
    }

    private static void lengths() {
        Edge.says("STEM of a SORT and CLASS c: 4 and 2 c UNITS long");
        int[][] fit = {{4, 22}, {6, 222, 33, 42, 24}, {62, 26, 2222, 44, 35, 233}, {64, 46, 55, 22222, 226, 622}};
        int[][] longer = {{5, 6, 23, 32, 222}, {25, 52, 34, 223, 322, 62, 2222}, {63, 36, 54, 2223, 22222, 66, 333},
            {65, 56, 66, 22223, 32222, 222222, 623, 2222222, 666666}};
        for (int c = 0; c < 4; c++) {
            for (int sort = 0; sort < 4; sort++) {
                TimberValley x = new TimberValley();
                x.crew(0);
                x.stand(1, sort, c, 9);
                for (int row : fit[c]) {
                    Check.yes("class " + c + " has " + row, x.worth(sort, c, row) > 0);
                    Edge.is(x, Integer.toString(row).length(), "fall", 0, 1, sort, c, row);
                }
                for (int row : longer[c]) {
                    Edge.is(x, -1, "worth", sort, c, row);
                    Edge.is(x, -4, "fall", 0, 1, sort, c, row);
                }
            }
        }
    }

    private static void widths() {
        Edge.says("at its foot 10 and 7 c and SORT wide; after each UNIT TAPER less (at least 1).");
        for (int taper = 1; taper <= 3; taper++) {
            TimberValley x = new TimberValley();
            for (int sort = 0; sort < 4; sort++) {
                x.sort(sort, 20, taper);
                for (int c = 0; c < 4; c++) {
                    for (int units = 2; units <= Math.min(6, 4 + 2 * c); units++) {
                        int wide = 10 + 7 * c + sort - taper * units;
                        Edge.is(x, 10 * (wide < 1 ? 1 : wide), "worth", sort, c, units);
                    }
                }
            }
        }
        TimberValley x = new TimberValley();
        x.sort(0, 20, 3);
        x.sort(1, 20, 3);
        x.sort(2, 20, 3);
        Edge.is(x, 10, "worth", 0, 0, 3);
        Edge.is(x, 10 * 2, "worth", 1, 0, 3);
        Edge.is(x, 10, "worth", 0, 0, 4);
        Edge.is(x, 10, "worth", 1, 0, 4);
        Edge.is(x, 10 * 6 + 10, "worth", 2, 0, 22);
    }

    private static void prices() {
        Edge.says("PRICE of its UNITS (0 to 99; 10 at first each) times how wide it is at its end.");
        Edge.says("PRICE of a piece of so many UNITS (2 to 6). False: other numbers.");
        for (int units = 2; units <= 6; units++) {
            TimberValley x = new TimberValley();
            Edge.is(x, 10 * (31 - units), "worth", 0, 3, units);
            for (int v : new int[] {0, 99, 1, 98}) {
                Edge.is(x, 1, "price", units, v);
                for (int other = 2; other <= 6; other++) {
                    Edge.is(x, (other == units ? v : 10) * (31 - other), "worth", 0, 3, other);
                }
            }
            for (int v : new int[] {-1, 100, LOW, HIGH}) {
                Edge.refuses(RICH, 0, "price", units, v);
            }
            Edge.changes(RICH, 1, "price", units, 99);
        }
        for (int units : new int[] {1, 7, 0, -1, LOW, HIGH}) {
            Edge.refuses(RICH, 0, "price", units, 50);
        }
    }

    private static void priced(TimberValley x, int p2, int p3, int p4, int p5, int p6) {
        int[] v = {p2, p3, p4, p5, p6};
        for (int i = 0; i < 5; i++) {
            Edge.is(x, 1, "price", i + 2, v[i]);
        }
    }

    private static void bucks(TimberValley x, int c, int sum, int... pieces) {
        Edge.is(x, sum, "buck", 0, c);
        for (int i = 0; i < pieces.length; i++) {
            Edge.is(x, pieces[i], "piece", 0, c, i);
        }
        Edge.is(x, -1, "piece", 0, c, pieces.length);
    }

    private static void leftAtTheTop() {
        Edge.says("from its foot on into pieces of 2 to 6 UNITS, what is left at the top (0 or 1 UNIT) lies");
        TimberValley x = new TimberValley();
        priced(x, 0, 99, 0, 0, 0);
        bucks(x, 0, 99 * 7, 3);
        priced(x, 0, 0, 99, 0, 0);
        // two UNITS may not be left: a piece without worth is cut from them
        bucks(x, 1, 99 * 13, 4, 2);
        bucks(x, 0, 99 * 6, 4);
        priced(x, 0, 0, 0, 99, 0);
        bucks(x, 1, 99 * 12, 5);
        bucks(x, 2, 99 * 19, 5, 2);
        priced(x, 0, 0, 0, 0, 99);
        bucks(x, 1, 99 * 11, 6);
        bucks(x, 2, 99 * 18, 6, 2);
        bucks(x, 3, 99 * 25, 6, 2, 2);
    }

    private static void firstOfSeveral() {
        Edge.says("The greatest sum of all worths; of several rows of pieces the first "
                + "(the lesser UNITS first, a piece ahead of none).");
        TimberValley x = new TimberValley();
        priced(x, 0, 0, 0, 0, 0);
        bucks(x, 0, 0, 2, 2);
        bucks(x, 1, 0, 2, 2, 2);
        bucks(x, 2, 0, 2, 2, 2, 2);
        bucks(x, 3, 0, 2, 2, 2, 2, 2);
        // 3 is 7 wide at its end, 4 is 6 wide: 6 times 7 either way
        priced(x, 0, 6, 7, 0, 0);
        bucks(x, 0, 42, 3);
        priced(x, 0, 6, 8, 0, 0);
        bucks(x, 0, 48, 4);
        // 2 2 is worth 8 and 6 times 3, 4 is worth 6 times 7: 42 either way
        priced(x, 3, 0, 7, 0, 0);
        bucks(x, 0, 42, 2, 2);
        priced(x, 3, 0, 8, 0, 0);
        bucks(x, 0, 48, 4);
        priced(x, 99, 99, 99, 99, 99);
        bucks(x, 3, 99 * (29 + 27 + 25 + 23 + 21), 2, 2, 2, 2, 2);
    }

    private static void buckNumbers() {
        Edge.says("TO BUCK a STEM: the greatest sum. NONE: no such SORT, CLASS.");
        for (int wrong : new int[] {-1, 4, LOW, HIGH}) {
            Edge.refuses(RICH, -1, "buck", wrong, 0);
            Edge.refuses(RICH, -1, "buck", 0, wrong);
        }
        TimberValley x = new TimberValley();
        Edge.is(x, 10 * (8 + 6), "buck", 0, 0);
        Edge.is(x, 10 * (32 + 30 + 28 + 26 + 24), "buck", 3, 3);
    }

    private static void pieceNumbers() {
        Edge.says("UNITS of piece i of it. NONE: there is none such.");
        for (int wrong : new int[] {-1, 4, LOW, HIGH}) {
            Edge.refuses(RICH, -1, "piece", wrong, 0, 0);
            Edge.refuses(RICH, -1, "piece", 0, wrong, 0);
        }
        TimberValley x = new TimberValley();
        for (int c = 0; c < 4; c++) {
            Edge.is(x, -1, "piece", 0, c, -1);
            Edge.is(x, 2, "piece", 0, c, 0);
            Edge.is(x, 2, "piece", 0, c, 1 + c);
            Edge.is(x, -1, "piece", 0, c, 2 + c);
            Edge.is(x, -1, "piece", 0, c, LOW);
            Edge.is(x, -1, "piece", 0, c, HIGH);
        }
        // a longer row of another STEM leaves nothing behind
        Edge.is(x, 1, "price", 4, 99);
        Edge.is(x, 4, "piece", 0, 0, 0);
        Edge.is(x, -1, "piece", 0, 0, 1);
    }

    private static void worthFigures() {
        Edge.says("What a row of pieces (a number whose figures are their UNITS, the first ahead) would be worth. "
                + "NONE: no such SORT, CLASS, pieces, or longer than the STEM.");
        for (int wrong : new int[] {-1, 4, LOW, HIGH}) {
            Edge.refuses(RICH, -1, "worth", wrong, 3, 2);
            Edge.refuses(RICH, -1, "worth", 0, wrong, 2);
        }
        TimberValley x = new TimberValley();
        for (int figure = 0; figure <= 9; figure++) {
            boolean piece = figure >= 2 && figure <= 6;
            Edge.is(x, piece ? 10 * (31 - figure) : -1, "worth", 0, 3, figure);
            Edge.is(x, piece ? 10 * (29 + 29 - figure) : -1, "worth", 0, 3, 20 + figure);
            if (figure > 0) {
                Edge.is(x, piece ? 10 * (31 - figure + 29 - figure) : -1, "worth", 0, 3, 10 * figure + 2);
            }
        }
        for (int row : new int[] {1222, 1333, 1322, 12222, 122, 7222, 8222, 9222, 202, 212, 272, 292, 2022, 20, 22220, -2, -22, -4, LOW, HIGH, 222222222, 1000000002}) {
            Edge.is(x, -1, "worth", 0, 3, row);
        }
        x.price(2, 1);
        x.price(3, 99);
        Edge.is(x, 29 + 99 * 26, "worth", 0, 3, 23);
        Edge.is(x, 99 * 28 + 26, "worth", 0, 3, 32);
    }

    private static void otherRows() {
        Edge.says("A crew may cut other rows.");
        TimberValley x = new TimberValley();
        x.crew(0);
        x.stand(0, 0, 3, 2);
        Edge.is(x, 10 * 29, "worth", 0, 3, 2);
        Edge.is(x, 1, "fall", 0, 0, 0, 3, 2);
        Edge.is(x, 1, "count", 1);
        Edge.is(x, 29, "log", 0, 3);
        Edge.is(x, 2, "fall", 0, 0, 0, 3, 62);
        Edge.is(x, 6, "log", 1, 2);
        Edge.is(x, 25, "log", 1, 3);
        Edge.is(x, 2, "log", 2, 2);
        Edge.is(x, 23, "log", 2, 3);
    }

    private static void fallNumbers() {
        Edge.says("NONE: no such ones, the crew has left; else the first of these:");
        for (int crew : new int[] {-1, 4, LOW, HIGH}) {
            Edge.refuses(RICH, -1, "fall", crew, 10, 0, 3, 2);
        }
        Check.is("crew 3 has left", 1, Edge.made(RICH).crewOf(3, 4));
        Edge.refuses(RICH, -1, "fall", 3, 10, 0, 3, 2);
        for (int cell : new int[] {-1, 64, LOW, HIGH}) {
            Edge.refuses(RICH, -1, "fall", 0, cell, 0, 3, 2);
        }
        for (int wrong : new int[] {-1, 4, LOW, HIGH}) {
            Edge.refuses(RICH, -1, "fall", 0, 10, wrong, 3, 2);
            Edge.refuses(RICH, -1, "fall", 0, 10, 0, wrong, 2);
        }
        for (int crew = 0; crew < 3; crew++) {
            Edge.changes(RICH, 1, "fall", crew, 10, 0, 3, 2);
        }
    }

    private static void fallCodes() {
        Edge.says("-2 there is no such STEM; -3 it MAY not; -4 the row isn't so; -5 LOGS would be more than 300.");
        Edge.Run barred = x -> {
            x.crew(0);
            x.crew(1);
            Check.law(x, 0, "bar cut if crew=1 and cell=5;");
            x.stand(5, 0, 3, 70);
            x.stand(6, 0, 3, 70);
            for (int i = 0; i < 60; i++) {
                x.fall(0, 6, 0, 3, 22222);
            }
        };
        Check.is("full", 300, Edge.made(barred).count(1));
        Edge.refuses(barred, -1, "fall", 2, 5, 0, 2, 7);
        Edge.refuses(barred, -2, "fall", 1, 5, 0, 2, 7);
        Edge.refuses(barred, -2, "fall", 1, 5, 1, 3, 7);
        Edge.refuses(barred, -2, "fall", 1, 4, 0, 3, 7);
        Edge.refuses(barred, -3, "fall", 1, 5, 0, 3, 7);
        Edge.refuses(barred, -3, "fall", 1, 5, 0, 3, 0);
        Edge.refuses(barred, -3, "fall", 1, 5, 0, 3, 2);
        Edge.refuses(barred, -4, "fall", 0, 5, 0, 3, 7);
        Edge.refuses(barred, -4, "fall", 1, 6, 0, 3, 7);
        Edge.refuses(barred, -4, "fall", 0, 5, 0, 3, -1);
        Edge.refuses(barred, -4, "fall", 0, 5, 0, 3, LOW);
        Edge.refuses(barred, -4, "fall", 0, 5, 0, 3, HIGH);
        Edge.refuses(barred, -4, "fall", 0, 5, 0, 3, 222222);
        Edge.refuses(barred, -5, "fall", 0, 5, 0, 3, 2);
        Edge.refuses(barred, -5, "fall", 1, 6, 0, 3, 0);
    }

    private static void lastStem() {
        Edge.says("TO FALL a STEM: it is one less; SLASH of its CELL is 3 more; its pieces are LOGS, lying there (0)");
        TimberValley x = new TimberValley();
        x.crew(0);
        x.stand(7, 1, 1, 2);
        Edge.is(x, 1, "fall", 0, 7, 1, 1, 6);
        Edge.is(x, 1, "of", 7, 10);
        Edge.is(x, 3, "of", 7, 1);
        Edge.is(x, 3, "fall", 0, 7, 1, 1, 222);
        Edge.is(x, 0, "of", 7, 10);
        Edge.is(x, 6, "of", 7, 1);
        Edge.is(x, 4, "of", 7, 2);
        for (int log = 0; log < 4; log++) {
            Edge.is(x, 7, "log", log, 0);
            Edge.is(x, 0, "log", log, 6);
        }
        Edge.is(x, -2, "fall", 0, 7, 1, 1, 6);
        Edge.is(x, 0, "of", 7, 10);
        Edge.is(x, 6, "of", 7, 1);
    }

    private static void asToBuck() {
        Edge.says("TO FALL a STEM by a crew, cut into a row of pieces (0: as TO BUCK): how many LOGS come.");
        TimberValley x = new TimberValley();
        x.crew(0);
        x.stand(0, 0, 3, 200);
        Edge.is(x, 5, "fall", 0, 0, 0, 3, 0);
        x.price(6, 99);
        Edge.is(x, 3, "fall", 0, 0, 0, 3, 0);
        // 6 2 2: 99 times 25, then 23 and 21; no other row has so wide an end for its 6
        int[] units = {6, 2, 2};
        for (int i = 0; i < 3; i++) {
            Edge.is(x, units[i], "piece", 0, 3, i);
            Edge.is(x, units[i], "log", 5 + i, 2);
        }
        Edge.is(x, -1, "piece", 0, 3, 3);
    }

    private static void threeHundred() {
        Edge.says("LOGS, 300 at most, numbered as they come");
        Edge.Run near = x -> {
            x.crew(0);
            x.stand(6, 0, 3, 100);
            for (int i = 0; i < 59; i++) {
                x.fall(0, 6, 0, 3, 22222);
            }
            x.fall(0, 6, 0, 3, 22);
        };
        Check.is("297", 297, Edge.made(near).count(1));
        Edge.refuses(near, -5, "fall", 0, 6, 0, 3, 2222);
        Edge.refuses(near, -5, "fall", 0, 6, 0, 3, 0);
        Edge.changes(near, 3, "fall", 0, 6, 0, 3, 222);
        TimberValley x = Edge.made(near);
        Edge.is(x, 2, "fall", 0, 6, 0, 3, 22);
        Edge.is(x, -5, "fall", 0, 6, 0, 3, 22);
        Edge.is(x, 1, "fall", 0, 6, 0, 3, 6);
        Edge.is(x, -5, "fall", 0, 6, 0, 3, 2);
        Edge.is(x, 300, "count", 1);
        Edge.is(x, 6, "log", 299, 2);
        Edge.is(x, -1, "log", 300, 2);
    }

    private static void faultPlaces() {
        Edge.says("FAULT: a place hidden in it: its number times 7, and its CELL, the rest by WIDE and 3 "
                + "(no FAULT if that is WIDE or more).");
        for (int cell = 0; cell < 64; cell++) {
            TimberValley x = new TimberValley();
            x.crew(0);
            x.stand(cell, 0, 0, 2);
            x.fall(0, cell, 0, 0, 2);
            x.fall(0, cell, 0, 0, 22);
            // 8 wide: the rest by 11; the third log is 6 wide: the rest by 9
            Edge.is(x, cell % 11 >= 8 ? -1 : cell % 11, "log", 0, 8);
            Edge.is(x, (cell + 7) % 11 >= 8 ? -1 : (cell + 7) % 11, "log", 1, 8);
            Edge.is(x, (cell + 14) % 9 >= 6 ? -1 : (cell + 14) % 9, "log", 2, 8);
        }
    }

    private static void volumes() {
        Edge.says("VOLUME: UNITS times WIDE, by 8, rounded down, and 1.");
        TimberValley x = new TimberValley();
        x.crew(0);
        x.sort(0, 20, 3);
        x.sort(1, 20, 2);
        for (int sort = 0; sort < 4; sort++) {
            x.stand(0, sort, 0, 5);
            x.stand(0, sort, 3, 5);
        }
        int[][] cuts = {{0, 0, 22}, {1, 0, 2}, {2, 0, 4}, {3, 3, 6}, {3, 3, 2}};
        int[][] due = {{4, 2}, {1, 1}, {7, 2}, {8, 5}, {28, 22}, {32, 9}};
        for (int[] one : cuts) {
            x.fall(0, 0, one[0], one[1], one[2]);
        }
        for (int log = 0; log < due.length; log++) {
            Edge.is(x, due[log][0], "log", log, 3);
            Edge.is(x, due[log][1], "log", log, 7);
        }
    }

    private static void brandsAndDays() {
        Edge.says("CELL, SORT, UNITS, WIDE (at its end), the DAY, the BRAND (0 to 9) of its crew");
        TimberValley x = new TimberValley();
        x.crew(0);
        x.crew(9);
        x.stand(63, 3, 0, 5);
        x.fall(0, 63, 3, 0, 4);
        Check.days(x, 30);
        x.fall(1, 63, 3, 0, 3);
        int[][] due = {{63, 3, 4, 9, 0, 0}, {63, 3, 3, 10, 30, 9}};
        for (int log = 0; log < 2; log++) {
            for (int what = 0; what < 6; what++) {
                Edge.is(x, due[log][what], "log", log, what);
            }
        }
    }

    private static void fallChanges() {
        Edge.says("For each STEM that it falls a crew EARNS PAY times SCALE of all its LOGS by the rule of the lease "
                + "(0 at first).");
        TimberValley x = new TimberValley();
        x.crew(0);
        x.crew(0);
        x.stand(2, 0, 3, 9);
        x.fall(0, 2, 0, 3, 22);
        // 29 and 27 wide: 625 and 529 times 2 by 16 are 78 and 66, each rounded down
        Edge.is(x, 2 * (78 + 66), "crewOf", 0, 1);
        x.lease(1);
        x.fall(0, 2, 0, 3, 22);
        // 841 and 729 times 2 by 24 are 70 and 60
        Edge.is(x, 2 * (78 + 66) + 2 * (70 + 60), "crewOf", 0, 1);
        Edge.is(x, 0, "crewOf", 1, 1);
        Check.is("law", 1, Check.law(x, 0, "pay 0 if class=3;"));
        x.fall(0, 2, 0, 3, 22);
        Edge.is(x, 2 * (78 + 66) + 2 * (70 + 60), "crewOf", 0, 1);
        Check.is("law", 1, Check.law(x, 0, "pay 9999 if class=3;"));
        x.fall(1, 2, 0, 3, 22);
        Edge.is(x, 9999 * 130, "crewOf", 1, 1);
    }

    private static void logNumbers() {
        Edge.says("Of a LOG what 0 its CELL now, 1 SORT, 2 UNITS, 3 WIDE, 4 the DAY, 5 BRAND, 6 what became of it, "
                + "7 VOLUME, 8 FAULT (NONE without). NONE for others.");
        Check.is("logs", 17, Edge.made(RICH).count(1));
        for (int log : new int[] {-1, 17, 300, LOW, HIGH}) {
            Edge.refuses(RICH, -1, "log", log, 0);
            Edge.refuses(RICH, -1, "log", log, 8);
        }
        for (int what : new int[] {-1, 9, LOW, HIGH}) {
            Edge.refuses(RICH, -1, "log", 16, what);
        }
        TimberValley x = Edge.made(RICH);
        int[] due = {63, 1, 3, 26, 0, 3, 3, 10, 2};
        for (int what = 0; what <= 8; what++) {
            Edge.is(x, due[what], "log", 12, what);
        }
    }
}
