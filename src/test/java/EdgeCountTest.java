/** The edges of promise 56, of NONE, and of the 512 calls for which an object is used. */
public final class EdgeCountTest {
    private static final Edge.Run RICH = Valleys::rich;
    private static final int LOW = Integer.MIN_VALUE;
    private static final int HIGH = Integer.MAX_VALUE;

    public static void main(String[] args) {
        none();
        countNumbers();
        countsOfTheRich();
        becameCounts();
        stemCounts();
        wages();
        fullValley();
        dearestCalls();
        Check.end();
    }

    private static void none() {
        Edge.says("`NONE = -1`: There is none.");
        Check.is("NONE", -1, TimberValley.NONE);
    }

    private static void countNumbers() {
        Edge.says("0 DAY, 1 LOGS, 2 WAYS, 3 IRON stored, 4 IRON laid, 5 texts of LAW, 6 crews, 7 ORDERS, 8 STOCK, "
                + "9 bytes of the TAPE, 10 DOUBLES, 11 SPURS, 12 WAGES PAID, 13 all STEMS; 20 and w LOGS of which w "
                + "became (0 to 4). NONE for others.");
        for (int what : new int[] {-1, 14, 15, 16, 17, 18, 19, 25, LOW, HIGH}) {
            Edge.refuses(RICH, -1, "count", what);
            Edge.refuses(Valleys::empty, -1, "count", what);
        }
    }

    private static void countsOfTheRich() {
        Edge.says("0 DAY, 1 LOGS, 2 WAYS, 3 IRON stored, 4 IRON laid, 5 texts of LAW, 6 crews, 7 ORDERS, 8 STOCK");
        int[] due = {6, 17, 9, 27, 10, 2, 4, 3, 4, 16, 3, 3, 0, 486};
        TimberValley x = Edge.made(RICH);
        for (int what = 0; what <= 13; what++) {
            Edge.is(x, due[what], "count", what);
        }
    }

    private static void becameCounts() {
        Edge.says("20 and w LOGS of which w became (0 to 4).");
        int[] due = {10, 4, 1, 1, 1};
        TimberValley x = Edge.made(RICH);
        for (int w = 0; w <= 4; w++) {
            Edge.is(x, due[w], "count", 20 + w);
            int many = 0;
            for (int log = 0; log < 17; log++) {
                many += x.log(log, 6) == w ? 1 : 0;
            }
            Edge.is(x, many, "count", 20 + w);
        }
    }

    private static void stemCounts() {
        Edge.says("13 all STEMS");
        TimberValley x = new TimberValley();
        for (int cell = 0; cell < 64; cell++) {
            Edge.is(x, 1, "stand", cell, cell % 4, cell / 4 % 4, 200);
            Edge.is(x, 200 * (cell + 1), "count", 13);
        }
    }

    private static void wages() {
        Edge.says("12 WAGES PAID");
        TimberValley x = new TimberValley();
        x.crew(0);
        x.crew(1);
        x.stand(0, 0, 0, 9);
        Check.law(x, 0, "pay 100 if crew=0;pay 1000 if crew=1;");
        x.fall(0, 0, 0, 0, 4);
        x.fall(1, 0, 0, 0, 4);
        Edge.is(x, 0, "count", 12);
        Check.days(x, 25);
        Edge.is(x, 95, "crewOf", 0, 3);
        Edge.is(x, 995, "crewOf", 1, 3);
        Edge.is(x, 1090, "count", 12);
        x.fall(1, 0, 0, 0, 4);
        Check.days(x, 25);
        Edge.is(x, 1090 + 995, "count", 12);
        Edge.is(x, 5, "crewOf", 0, 2);
    }

    /** Everything of which there is a greatest number, full at once, and then a few DAYS. */
    private static void fullValley() {
        Edge.says("An object is used for at most 512 calls after it has been made");
        TimberValley x = new TimberValley();
        for (int i = 0; i < 20; i++) {
            x.crew(i % 10);
        }
        x.mill(56);
        x.stand(63, 3, 3, 200);
        x.cell(63, 40);
        for (int i = 0; i < 60; i++) {
            Check.is("fall " + i, 5, x.fall(i % 20, 63, 3, 3, 22222));
        }
        for (int i = 0; i < 40; i++) {
            x.way(i % 5, 63 - i % 7, 62 - i % 7);
        }
        for (int i = 0; i < 60; i++) {
            Check.yes("found " + i, x.found(i % 5, 299 - i, 999));
        }
        for (int i = 0; i < 30; i++) {
            Check.is("order " + i, i, x.order(1 + i % 12, 2, 99, 99, 3999));
        }
        for (int i = 0; i < 9; i++) {
            x.spur(HIGH, 50, 999);
        }
        for (int i = 0; i < 200; i++) {
            Check.yes("weather " + i, x.weather(i, 3, 9, 9));
        }
        int calls = 20 + 3 + 60 + 40 + 60 + 30 + 9 + 200;
        for (int i = calls; i < 500; i++) {
            x.day();
        }
        Check.yes("some are in the pond", x.count(21) > 0);
        Check.is("fire", 1, x.fire(63, 0, 1));
        Check.is("what came is there", 300, x.count(20) + x.count(21) + x.count(22) + x.count(23) + x.count(24));
        Check.is("logs", 300, x.count(1));
        Edge.is(x, -5, "fall", 0, 63, 3, 3, 2);
        Edge.is(x, -1, "way", 0, 0, 1);
        Edge.is(x, 500 - calls, "count", 0);
    }

    private static void dearestCalls() {
        Edge.says("An object is used for at most 512 calls after it has been made; what later calls answer is free.");
        TimberValley x = new TimberValley();
        x.iron(200);
        for (int i = 0; i < 9; i++) {
            x.spur(1 << i | 1 << i + 3, 30, 7 * i);
        }
        x.asked(0, 4095);
        x.asked(2, 255);
        int sum = x.rails(5);
        int yield = x.forty(3, 3, 3, 3, 4, 30, 2);
        for (int i = 0; i < 249; i++) {
            Edge.is(x, sum, "rails", 5);
            Edge.is(x, yield, "forty", 3, 3, 3, 3, 4, 30, 2);
        }
    }
}
