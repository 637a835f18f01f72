/** The edges of part 4 and of promises 26 to 32 and 54: crews, shops, months, scales and hands. */
public final class EdgeCrewTest {
    private static final Edge.Run RICH = Valleys::rich;
    private static final int LOW = Integer.MIN_VALUE;
    private static final int HIGH = Integer.MAX_VALUE;

    public static void main(String[] args) {
        brands();
        twentyCrews();
        shopNumbers();
        credit();
        rentAboveCredit();
        monthsPay();
        monthsEnd();
        eachCrew();
        leaveNumbers();
        leaveGets();
        leftForGood();
        crewOfNumbers();
        leaseRules();
        scaleByRules();
        scaleNumbers();
        foundNumbers();
        sixtyDoubles();
        handRoundedDown();
        doubt();
        ruleNow();
        handNumbers();
        Check.end();
    }

    private static void brands() {
        Edge.says("A crew with a BRAND: its number. NONE: another BRAND, 20 came.");
        for (int brand : new int[] {-1, 10, LOW, HIGH}) {
            Edge.refuses(RICH, -1, "crew", brand);
            Edge.refuses(Valleys::empty, -1, "crew", brand);
        }
        TimberValley x = new TimberValley();
        for (int brand = 0; brand <= 9; brand++) {
            Edge.is(x, brand, "crew", brand);
            Edge.is(x, brand, "crewOf", brand, 0);
        }
        Edge.changes(RICH, 4, "crew", 0);
        Edge.changes(RICH, 4, "crew", 9);
    }

    private static void twentyCrews() {
        Edge.says("CREWS, at most 20, numbered as they come, have a BRAND.");
        Edge.Run full = x -> {
            for (int i = 0; i < 20; i++) {
                x.crew(i / 2);
            }
            x.leave(7);
        };
        Edge.refuses(full, -1, "crew", 0);
        Edge.refuses(full, -1, "crew", 9);
        TimberValley x = new TimberValley();
        for (int i = 0; i < 20; i++) {
            Edge.is(x, -1, "crew", 10);
            Edge.is(x, i, "crew", 9 - i % 10);
        }
        Edge.is(x, -1, "crew", 5);
        Edge.is(x, 20, "count", 6);
        Edge.is(x, 0, "crewOf", 19, 0);
        Edge.is(x, -1, "crewOf", 20, 0);
        Edge.is(x, 50, "shop", 19, 50);
    }

    private static void shopNumbers() {
        Edge.says("SHOP: what the crew OWES then. NONE: no such one, it has left, v is not 1 to 999; "
                + "-2: it would be above CREDIT.");
        for (int crew : new int[] {-1, 4, LOW, HIGH}) {
            Edge.refuses(RICH, -1, "shop", crew, 1);
        }
        Edge.refuses(RICH, -1, "shop", 3, 1);
        for (int v : new int[] {0, -1, 1000, LOW, HIGH}) {
            Edge.refuses(RICH, -1, "shop", 0, v);
        }
        // crew 0 owes 8 of 50, crew 1 60 of 70, crew 2 nothing of 50
        Edge.changes(RICH, 9, "shop", 0, 1);
        Edge.changes(RICH, 50, "shop", 0, 42);
        Edge.refuses(RICH, -2, "shop", 0, 43);
        Edge.changes(RICH, 70, "shop", 1, 10);
        Edge.refuses(RICH, -2, "shop", 1, 11);
        Edge.changes(RICH, 50, "shop", 2, 50);
        Edge.refuses(RICH, -2, "shop", 2, 51);
        Edge.refuses(RICH, -2, "shop", 2, 999);
        Edge.refuses(RICH, -1, "shop", 2, 1000);
    }

    private static TimberValley withLaw(String text) {
        TimberValley x = new TimberValley();
        x.crew(0);
        x.stand(0, 0, 0, 20);
        Check.law(x, 0, text);
        return x;
    }

    private static void credit() {
        Edge.says("SHOP: a crew OWES more, if that is then not above CREDIT.");
        TimberValley x = withLaw("credit 999 if crew=0;");
        Edge.is(x, 1, "shop", 0, 1);
        Edge.is(x, -2, "shop", 0, 999);
        Edge.is(x, 999, "shop", 0, 998);
        Edge.is(x, -2, "shop", 0, 1);
        Edge.is(x, 999, "crewOf", 0, 2);
        TimberValley y = withLaw("credit 999 if crew=0;");
        Edge.is(y, 999, "shop", 0, 999);
        TimberValley none = withLaw("credit 0 if crew=0;");
        Edge.is(none, -2, "shop", 0, 1);
        Edge.is(none, 0, "crewOf", 0, 2);
        TimberValley much = withLaw("credit 9999 if crew=0;");
        for (int i = 1; i <= 10; i++) {
            Edge.is(much, 999 * i, "shop", 0, 999);
        }
        Edge.is(much, -2, "shop", 0, 10);
        Edge.is(much, 9999, "shop", 0, 9);
    }

    private static void rentAboveCredit() {
        Edge.says("As a MONTH ends each crew OWES RENT more");
        TimberValley x = withLaw("rent 60 if crew=0;credit 50 if crew=0;");
        Check.days(x, 25);
        Edge.is(x, 60, "crewOf", 0, 2);
        Edge.is(x, -2, "shop", 0, 1);
        Check.days(x, 25);
        Edge.is(x, 120, "crewOf", 0, 2);
        TimberValley none = withLaw("rent 0 if crew=0;");
        Check.days(none, 25);
        Edge.is(none, 0, "crewOf", 0, 2);
    }

    /** A crew that EARNED and OWES so much ahead of a MONTH's end with so much RENT. */
    private static TimberValley account(int earned, int owes, int rent) {
        TimberValley x = withLaw("pay " + earned + " if crew=0;rent " + rent + " if crew=0;credit 9999 if crew=0;");
        // 6 wide, 4 long: its SCALE is 1
        Edge.is(x, 1, "fall", 0, 0, 0, 0, 4);
        Edge.is(x, earned, "crewOf", 0, 1);
        if (owes > 0) {
            Edge.is(x, owes, "shop", 0, owes);
        }
        return x;
    }

    private static void monthsPay() {
        Edge.says("then what it EARNED pays what it OWES as far as it goes; the rest of it is PAID.");
        int[][] cases = {{0, 0, 5, 5, 0}, {0, 7, 10, 17, 0}, {16, 7, 10, 1, 0}, {17, 7, 10, 0, 0}, {18, 7, 10, 0, 1},
            {5, 0, 5, 0, 0}, {6, 0, 5, 0, 1}, {4, 0, 5, 1, 0}, {0, 0, 0, 0, 0}, {9, 0, 0, 0, 9},
            {9999, 999, 9000, 0, 0}, {9999, 1, 9999, 1, 0}};
        for (int[] one : cases) {
            TimberValley x = account(one[0], one[1], one[2]);
            Check.days(x, 24);
            Edge.is(x, one[0], "crewOf", 0, 1);
            Edge.is(x, one[1], "crewOf", 0, 2);
            Edge.is(x, 0, "crewOf", 0, 3);
            x.day();
            Edge.is(x, 0, "crewOf", 0, 1);
            Edge.is(x, one[3], "crewOf", 0, 2);
            Edge.is(x, one[4], "crewOf", 0, 3);
            Edge.is(x, one[4], "count", 12);
        }
    }

    private static void monthsEnd() {
        Edge.says("MONTHS (25 DAYS) and YEARS end with their last DAY.");
        TimberValley x = withLaw("rent 100 if day=24;rent 200 if day=49;rent 1 if season=2;rent 2 if day=99;"
                + "rent 3 if day=124;");
        int owes = 0;
        int[] rents = {100, 200, 1, 2, 3};
        for (int month = 0; month < 5; month++) {
            Check.days(x, 24);
            Edge.is(x, owes, "crewOf", 0, 2);
            x.day();
            owes += rents[month];
            Edge.is(x, owes, "crewOf", 0, 2);
        }
        Edge.is(x, 125, "count", 0);
    }

    private static void eachCrew() {
        Edge.says("As a MONTH ends each crew OWES RENT more; then what it EARNED pays what it OWES as far as it goes; "
                + "the rest of it is PAID.");
        TimberValley x = new TimberValley();
        for (int i = 0; i < 20; i++) {
            x.crew(i % 10);
        }
        x.stand(0, 0, 0, 200);
        Check.is("law", 3, Check.law(x, 0, "rent 30 if crew>9;pay 77 if crew>4;rent 1 if crew=0;"));
        for (int i = 0; i < 20; i++) {
            Edge.is(x, 1, "fall", i, 0, 0, 0, 4);
        }
        Check.days(x, 25);
        int paid = 0;
        for (int i = 0; i < 20; i++) {
            int rest = (i > 4 ? 77 : 2) - (i > 9 ? 30 : i == 0 ? 1 : 5);
            Edge.is(x, rest < 0 ? -rest : 0, "crewOf", i, 2);
            Edge.is(x, rest > 0 ? rest : 0, "crewOf", i, 3);
            paid += rest > 0 ? rest : 0;
        }
        Edge.is(x, paid, "count", 12);
    }

    private static void leaveNumbers() {
        Edge.says("TO LEAVE: what it gets (below 0: it OWES that). -1000000: no such one, it has left.");
        for (int crew : new int[] {-1, 3, 4, LOW, HIGH}) {
            Edge.refuses(RICH, -1000000, "leave", crew);
        }
        Edge.changes(RICH, 708, "leave", 0);
        Edge.changes(RICH, 80, "leave", 1);
        Edge.changes(RICH, 576, "leave", 2);
    }

    private static void leaveGets() {
        Edge.says("TO LEAVE: it gets what it EARNED less what it OWES (below 0: it still OWES that)");
        int[][] cases = {{0, 0, 0, 0}, {7, 7, 0, 0}, {6, 7, -1, 1}, {8, 7, 1, 0}, {0, 999, -999, 999}, {9999, 0, 9999, 0}};
        for (int[] one : cases) {
            TimberValley x = account(one[0], one[1], 5);
            Edge.is(x, one[2], "leave", 0);
            Edge.is(x, 0, "crewOf", 0, 1);
            Edge.is(x, one[3], "crewOf", 0, 2);
            Edge.is(x, one[2] > 0 ? one[2] : 0, "crewOf", 0, 3);
            Edge.is(x, 1, "crewOf", 0, 4);
            Edge.is(x, -1000000, "leave", 0);
            Edge.is(x, one[3], "crewOf", 0, 2);
        }
    }

    private static void leftForGood() {
        Edge.says("it has left for good.");
        TimberValley x = account(20, 7, 5);
        x.crew(1);
        Edge.is(x, 0, "crewOf", 0, 4);
        Edge.is(x, 13, "leave", 0);
        Edge.is(x, -1, "shop", 0, 1);
        Edge.is(x, -1, "fall", 0, 0, 0, 0, 4);
        Edge.is(x, -1000000, "leave", 0);
        Check.days(x, 25);
        Edge.is(x, 0, "crewOf", 0, 1);
        Edge.is(x, 1, "crewOf", 0, 4);
        Edge.is(x, 5, "crewOf", 1, 2);
        Edge.is(x, 2, "count", 6);
        Edge.is(x, 0, "log", 0, 5);
        Edge.is(x, 6, "shop", 1, 1);
    }

    private static void crewOfNumbers() {
        Edge.says("Of a crew what 0 BRAND, 1 EARNED, 2 OWES, 3 PAID, 4 whether it has left (1, 0). NONE for others.");
        for (int crew : new int[] {-1, 4, LOW, HIGH}) {
            Edge.refuses(RICH, -1, "crewOf", crew, 0);
            Edge.refuses(RICH, -1, "crewOf", crew, 4);
        }
        for (int what : new int[] {-1, 5, LOW, HIGH}) {
            Edge.refuses(RICH, -1, "crewOf", 0, what);
        }
        int[][] due = {{1, 716, 8, 0, 0}, {2, 140, 60, 0, 0}, {3, 576, 0, 0, 0}, {4, 0, 9, 0, 1}};
        TimberValley x = Edge.made(RICH);
        for (int crew = 0; crew < 4; crew++) {
            for (int what = 0; what < 5; what++) {
                Edge.is(x, due[crew][what], "crewOf", crew, what);
            }
        }
    }

    private static void leaseRules() {
        Edge.says("The rule of the lease (0, 1). False: another one.");
        for (int rule : new int[] {-1, 2, LOW, HIGH}) {
            Edge.refuses(RICH, 0, "lease", rule);
        }
        Edge.changes(RICH, 1, "lease", 0);
        Edge.refuses(RICH, 1, "lease", 1);
    }

    private static void scaleByRules() {
        Edge.says("SCALE of a LOG by rule 0: WIDE less 4 (0 at least), squared, times UNITS, by 16, rounded down; "
                + "by rule 1: WIDE squared times UNITS, by 24, rounded down.");
        for (int taper = 1; taper <= 3; taper++) {
            for (int sort = 0; sort < 4; sort++) {
                for (int units = 2; units <= 4; units++) {
                    TimberValley x = new TimberValley();
                    x.crew(0);
                    x.sort(sort, 20, taper);
                    x.stand(0, sort, 0, 1);
                    x.fall(0, 0, sort, 0, units);
                    int wide = 10 + sort - taper * units;
                    wide = wide < 1 ? 1 : wide;
                    int inner = wide < 4 ? 0 : wide - 4;
                    Edge.is(x, wide, "log", 0, 3);
                    Edge.is(x, inner * inner * units / 16, "scale", 0, 0);
                    Edge.is(x, wide * wide * units / 24, "scale", 0, 1);
                }
            }
        }
        TimberValley x = new TimberValley();
        x.crew(0);
        x.sort(0, 20, 3);
        x.sort(1, 20, 3);
        x.sort(2, 20, 1);
        x.stand(0, 0, 0, 1);
        x.stand(0, 1, 0, 1);
        x.stand(0, 2, 0, 1);
        x.fall(0, 0, 0, 0, 22);
        x.fall(0, 0, 1, 0, 3);
        x.fall(0, 0, 2, 0, 4);
        int[][] due = {{4, 0, 1}, {1, 0, 0}, {2, 0, 0}, {8, 4, 10}};
        for (int log = 0; log < 4; log++) {
            Edge.is(x, due[log][0], "log", log, 3);
            Edge.is(x, due[log][1], "scale", log, 0);
            Edge.is(x, due[log][2], "scale", log, 1);
        }
    }

    private static void scaleNumbers() {
        Edge.says("SCALE of a LOG by a rule. NONE: no such ones.");
        for (int log : new int[] {-1, 17, LOW, HIGH}) {
            Edge.refuses(RICH, -1, "scale", log, 0);
        }
        for (int rule : new int[] {-1, 2, LOW, HIGH}) {
            Edge.refuses(RICH, -1, "scale", 16, rule);
        }
        TimberValley x = Edge.made(RICH);
        // what became of a LOG does not alter its SCALE: sawn, sunk, burnt
        Edge.is(x, 78, "scale", 0, 0);
        Edge.is(x, 98, "scale", 11, 0);
        Edge.is(x, 90, "scale", 12, 0);
        Edge.is(x, 84, "scale", 12, 1);
    }

    private static void foundNumbers() {
        Edge.says("A DOUBLE. False: no such scaler, LOG, number, 60 are there.");
        Edge.says("SCALERS 0 to 4.");
        for (int scaler : new int[] {-1, 5, LOW, HIGH}) {
            Edge.refuses(RICH, 0, "found", scaler, 0, 5);
        }
        for (int log : new int[] {-1, 17, LOW, HIGH}) {
            Edge.refuses(RICH, 0, "found", 0, log, 5);
        }
        for (int v : new int[] {-1, 1000, LOW, HIGH}) {
            Edge.refuses(RICH, 0, "found", 0, 0, v);
        }
        Edge.refuses(Valleys::empty, 0, "found", 0, 0, 5);
        for (int scaler = 0; scaler <= 4; scaler++) {
            Edge.changes(RICH, 1, "found", scaler, 16, 0);
            Edge.changes(RICH, 1, "found", scaler, 0, 999);
        }
    }

    private static void sixtyDoubles() {
        Edge.says("DOUBLES, at most 60: a scaler found so much (0 to 999) of a LOG.");
        Edge.Run full = x -> {
            x.crew(0);
            x.stand(0, 0, 0, 1);
            x.fall(0, 0, 0, 0, 4);
            for (int i = 0; i < 60; i++) {
                x.found(i % 4, 0, i);
            }
        };
        for (int scaler = 0; scaler <= 4; scaler++) {
            Edge.refuses(full, 0, "found", scaler, 0, 500);
        }
        Edge.refuses(full, Edge.THROWS, "hand", 4, 0);
        TimberValley x = new TimberValley();
        x.crew(0);
        x.stand(0, 0, 0, 1);
        x.fall(0, 0, 0, 0, 4);
        for (int i = 0; i < 60; i++) {
            Edge.is(x, i, "count", 10);
            Edge.is(x, 0, "found", 0, 0, 1000);
            Edge.is(x, 1, "found", 0, 0, i == 59 ? 61 : 1);
        }
        Edge.is(x, 0, "found", 0, 0, 1);
        Edge.is(x, 60, "count", 10);
        Edge.is(x, 1, "hand", 0, 0);
        Edge.is(x, 60, "hand", 0, 1);
    }

    /** A LOG whose SCALE is 4 by rule 0 and 10 by rule 1, and what scaler 2 found of it. */
    private static TimberValley founds(int... found) {
        TimberValley x = new TimberValley();
        x.crew(0);
        x.stand(0, 2, 0, 1);
        x.fall(0, 0, 2, 0, 4);
        for (int v : found) {
            Edge.is(x, 1, "found", 2, 0, v);
        }
        return x;
    }

    private static void handRoundedDown() {
        Edge.says("HAND of a scaler: the sum over DOUBLES of what was found less SCALE of that LOG by the rule of the "
                + "lease (now), by how many, rounded down");
        Edge.is(founds(4), 0, "hand", 2, 0);
        Edge.is(founds(3), -1, "hand", 2, 0);
        Edge.is(founds(5), 1, "hand", 2, 0);
        Edge.is(founds(0), -4, "hand", 2, 0);
        Edge.is(founds(999), 995, "hand", 2, 0);
        Edge.is(founds(4, 5), 0, "hand", 2, 0);
        Edge.is(founds(5, 6), 1, "hand", 2, 0);
        Edge.is(founds(4, 3), -1, "hand", 2, 0);
        Edge.is(founds(3, 2), -2, "hand", 2, 0);
        Edge.is(founds(4, 4, 3), -1, "hand", 2, 0);
        Edge.is(founds(3, 3, 3), -1, "hand", 2, 0);
        Edge.is(founds(3, 3, 2), -2, "hand", 2, 0);
        Edge.is(founds(5, 5, 4), 0, "hand", 2, 0);
    }

    private static void doubt() {
        Edge.says("DOUBT: how far the greatest and the least of these are apart.");
        Edge.is(founds(4), 0, "hand", 2, 1);
        Edge.is(founds(0), 0, "hand", 2, 1);
        Edge.is(founds(999, 0), 999, "hand", 2, 1);
        Edge.is(founds(0, 999), 999, "hand", 2, 1);
        Edge.is(founds(5, 7, 6), 2, "hand", 2, 1);
        Edge.is(founds(3, 1, 2), 2, "hand", 2, 1);
        Edge.is(founds(3, 5), 2, "hand", 2, 1);
        TimberValley x = founds(3, 5);
        x.found(1, 0, 900);
        Edge.is(x, 2, "hand", 2, 1);
        Edge.is(x, 896, "hand", 1, 0);
    }

    private static void ruleNow() {
        Edge.says("by the rule of the lease (now)");
        TimberValley x = founds(4, 10);
        Edge.is(x, 3, "hand", 2, 0);
        x.lease(1);
        Edge.is(x, -3, "hand", 2, 0);
        Edge.is(x, 6, "hand", 2, 1);
        x.lease(0);
        Edge.is(x, 3, "hand", 2, 0);
    }

    private static void handNumbers() {
        Edge.says("HAND (what 0), DOUBT (1) of a scaler. NoSuchElementException: no such ones, no DOUBLE of it.");
        for (int scaler : new int[] {-1, 5, LOW, HIGH}) {
            Edge.refuses(RICH, Edge.THROWS, "hand", scaler, 0);
            Edge.refuses(RICH, Edge.THROWS, "hand", scaler, 1);
        }
        for (int what : new int[] {-1, 2, LOW, HIGH}) {
            Edge.refuses(RICH, Edge.THROWS, "hand", 0, what);
        }
        for (int scaler = 1; scaler <= 3; scaler++) {
            Edge.refuses(RICH, Edge.THROWS, "hand", scaler, 0);
            Edge.refuses(RICH, Edge.THROWS, "hand", scaler, 1);
        }
        Edge.refuses(Valleys::empty, Edge.THROWS, "hand", 0, 0);
        TimberValley x = Edge.made(RICH);
        // logs 0 and 1 are 29 wide and 2 long: 70 by rule 1; log 2 is 27 wide: 60
        Edge.is(x, -30, "hand", 0, 0);
        Edge.is(x, 40, "hand", 0, 1);
        Edge.is(x, -60, "hand", 4, 0);
        Edge.is(x, 0, "hand", 4, 1);
    }
}
