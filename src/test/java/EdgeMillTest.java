/** The edges of part 5 and of promises 33 to 36 and 55: orders, boards, what is sawn. */
public final class EdgeMillTest {
    private static final Edge.Run RICH = Valleys::rich;
    private static final int LOW = Integer.MIN_VALUE;
    private static final int HIGH = Integer.MAX_VALUE;
    private static final int NO_FAULT = 8;

    public static void main(String[] args) {
        orderNumbers();
        thirtyOrders();
        shipDays();
        notInThePond();
        boardPlaces();
        behindOneAnother();
        endsAtWide();
        aroundTheFault();
        sawInTheFault();
        unitsTheLogHas();
        lackBoards();
        shipHasGone();
        asManyAsOneLikes();
        firstRow();
        leftBehindAll();
        toStock();
        metAndEarly();
        nothingSawn();
        orderOfNumbers();
        Check.end();
    }

    /** LOG 0, 8 wide and 2 long, in the POND; its FAULT is the CELL's number, none in 8. */
    private static TimberValley pond(int cell) {
        TimberValley x = new TimberValley();
        x.mill(cell);
        x.crew(0);
        x.stand(cell, 0, 0, 9);
        x.fall(0, cell, 0, 0, 2);
        x.day();
        Edge.is(x, 1, "log", 0, 6);
        Edge.is(x, 8, "log", 0, 3);
        Edge.is(x, cell == NO_FAULT ? -1 : cell, "log", 0, 8);
        return x;
    }

    /** What lies at the places of LOG 0: a figure is an ORDER, a point anything else. */
    private static void boards(TimberValley x, String due) {
        for (int place = 0; place < due.length(); place++) {
            Edge.is(x, due.charAt(place) == '.' ? -2 : due.charAt(place) - '0', "board", 0, place);
        }
        Edge.is(x, -1, "board", 0, due.length());
        Edge.is(x, -1, "board", 0, -1);
    }

    private static void orderNumbers() {
        Edge.says("An ORDER: its number. NONE: other numbers (UNITS 2 to 6, BOARDS 1 to 99), a ship ahead of the DAY "
                + "at hand or behind 3999, 30 came.");
        Edge.says("ORDERS, at most 30, numbered as they come: THICK (1 to 12), least UNITS, how many BOARDS, "
                + "PRICE of one (1 to 99), the DAY of the ship.");
        int[][] ends = {{1, 12}, {2, 6}, {1, 99}, {1, 99}, {6, 3999}};
        for (int which = 0; which < 5; which++) {
            Object[] given = {3, 3, 3, 3, 9};
            for (int v : new int[] {ends[which][0] - 1, ends[which][1] + 1, -1, LOW, HIGH}) {
                given[which] = v;
                Edge.refuses(RICH, -1, "order", given);
            }
            for (int v : ends[which]) {
                given[which] = v;
                Edge.changes(RICH, 3, "order", given);
            }
        }
    }

    private static void thirtyOrders() {
        Edge.says("30 came.");
        Edge.Run full = x -> {
            for (int i = 0; i < 30; i++) {
                x.order(1 + i % 12, 2 + i % 5, 1 + i, 1 + i, 100 + i);
            }
        };
        Edge.refuses(full, -1, "order", 1, 2, 1, 1, 10);
        Edge.refuses(full, -1, "order", 12, 6, 99, 99, 3999);
        TimberValley x = new TimberValley();
        for (int i = 0; i < 30; i++) {
            Edge.is(x, -1, "order", 13, 2, 1, 1, 10);
            Edge.is(x, i, "order", 1, 2, 99 - i, 1, 10);
            Edge.is(x, 99 - i, "orderOf", i, 0);
        }
        Edge.is(x, -1, "order", 1, 2, 1, 1, 10);
        Edge.is(x, 30, "count", 7);
        Edge.is(x, Edge.THROWS, "orderOf", 30, 0);
        TimberValley last = pond(NO_FAULT);
        for (int i = 0; i < 29; i++) {
            last.order(9, 2, 1, 99, 10);
        }
        last.order(8, 2, 1, 3, 10);
        Edge.is(last, 3, "best", 0);
        Edge.is(last, 29, "board", 0, 0);
        Edge.is(last, 1, "saw", 0);
        Edge.is(last, 0, "orderOf", 29, 0);
    }

    private static void shipDays() {
        Edge.says("a ship ahead of the DAY at hand or behind 3999");
        TimberValley x = new TimberValley();
        Edge.is(x, 0, "order", 1, 2, 1, 1, 0);
        x.day();
        Edge.is(x, -1, "order", 1, 2, 1, 1, 0);
        Edge.is(x, 1, "order", 1, 2, 1, 1, 1);
        Edge.is(x, 2, "order", 1, 2, 1, 1, 3999);
        Edge.is(x, -1, "order", 1, 2, 1, 1, 4000);
        Edge.is(x, 3, "count", 7);
    }

    private static void notInThePond() {
        Edge.says("What a LOG in the POND would bring, sawn now. NONE: it isn't in the POND, no such one.");
        Edge.says("TO SAW: how many BOARDS. NONE likewise.");
        TimberValley x = Edge.made(RICH);
        int[] logs = {0, 4, 11, 12};
        int[] became = {2, 0, 4, 3};
        for (int i = 0; i < 4; i++) {
            Edge.is(x, became[i], "log", logs[i], 6);
            Edge.refuses(RICH, -1, "best", logs[i]);
            Edge.refuses(RICH, -1, "board", logs[i], 0);
            Edge.refuses(RICH, -1, "saw", logs[i]);
        }
        for (int log : new int[] {-1, 17, LOW, HIGH}) {
            Edge.refuses(RICH, -1, "best", log);
            Edge.refuses(RICH, -1, "board", log, 0);
            Edge.refuses(RICH, -1, "saw", log);
        }
        Edge.refuses(Valleys::empty, -1, "saw", 0);
        // log 1 is 29 wide with its FAULT at 17; order 1 is 2 thick and brings 4
        Edge.refuses(RICH, 40, "best", 1);
        Edge.changes(RICH, 10, "saw", 1);
    }

    private static void boardPlaces() {
        Edge.says("What lies at a place of it so: the ORDER whose board begins there; -2: the place is left, or within "
                + "a board or the saw's. NONE likewise, no such place.");
        for (int place : new int[] {-1, 29, LOW, HIGH}) {
            Edge.refuses(RICH, -1, "board", 1, place);
        }
        TimberValley x = Edge.made(RICH);
        Edge.is(x, 1, "board", 1, 0);
        Edge.is(x, -2, "board", 1, 1);
        Edge.is(x, -2, "board", 1, 2);
        Edge.is(x, 1, "board", 1, 3);
        Edge.is(x, -2, "board", 1, 28);
        TimberValley none = pond(NO_FAULT);
        boards(none, "........");
        none.order(8, 2, 1, 1, 9);
        boards(none, "0.......");
    }

    private static void behindOneAnother() {
        Edge.says("TO SAW a LOG in the POND: from place 0 to WIDE boards one behind the other, each THICK and 1 (the saw) "
                + "wide, one that ends at WIDE without the saw; or a place is left");
        String[] due = {"0.0.0.0.", "0..0..0.", "0...0...", "0.......", "0.......", "0.......", "0.......", "0......."};
        for (int thick = 1; thick <= 12; thick++) {
            TimberValley x = pond(NO_FAULT);
            x.order(thick, 2, 99, 7, 9);
            int many = 9 / (thick + 1);
            Edge.is(x, 7 * many, "best", 0);
            boards(x, thick <= 8 ? due[thick - 1] : "........");
            Edge.is(x, many, "saw", 0);
            Edge.is(x, 99 - many, "orderOf", 0, 0);
        }
    }

    private static void endsAtWide() {
        Edge.says("one that ends at WIDE without the saw");
        TimberValley x = pond(NO_FAULT);
        x.order(8, 2, 9, 10, 9);
        Edge.is(x, 10, "best", 0);
        x.order(9, 2, 9, 99, 9);
        Edge.is(x, 10, "best", 0);
        TimberValley two = pond(NO_FAULT);
        // 3 and the saw, then 4 up to the end
        two.order(4, 2, 9, 10, 9);
        two.order(3, 2, 9, 9, 9);
        Edge.is(two, 19, "best", 0);
        boards(two, "0....1..");
        TimberValley over = pond(NO_FAULT);
        // 4 and the saw, then 4 would end at 9
        over.order(4, 2, 9, 10, 9);
        Edge.is(over, 10, "best", 0);
        boards(over, "0.......");
    }

    private static void aroundTheFault() {
        Edge.says("a board over the FAULT is none.");
        for (int fault = 0; fault < 8; fault++) {
            for (int thick = 1; thick <= 8; thick++) {
                TimberValley x = pond(fault);
                x.order(thick, 2, 99, 1, 9);
                boolean some = thick <= fault || thick <= 7 - fault;
                Check.is("thick " + thick + " beside " + fault, some ? 1 : 0, Math.min(1, x.best(0)));
                for (int place = 0; place < 8; place++) {
                    boolean begins = x.board(0, place) == 0;
                    Check.no("a board over the fault", begins && place <= fault && fault < place + thick);
                }
            }
        }
        TimberValley before = pond(4);
        before.order(4, 2, 9, 1, 9);
        boards(before, "0.......");
        TimberValley behind = pond(3);
        behind.order(4, 2, 9, 1, 9);
        boards(behind, "....0...");
        TimberValley first = pond(0);
        first.order(7, 2, 9, 1, 9);
        boards(first, ".0......");
        TimberValley last = pond(7);
        last.order(7, 2, 9, 1, 9);
        boards(last, "0.......");
        TimberValley none = pond(0);
        none.order(8, 2, 9, 1, 9);
        Edge.is(none, 0, "best", 0);
        Edge.is(none, 0, "saw", 0);
    }

    private static void sawInTheFault() {
        Edge.says("a board over the FAULT is none.");
        TimberValley x = pond(3);
        x.order(3, 2, 9, 1, 9);
        Edge.is(x, 2, "best", 0);
        boards(x, "0...0...");
        TimberValley y = pond(2);
        y.order(2, 2, 9, 1, 9);
        Edge.is(y, 3, "best", 0);
        boards(y, "0..0..0.");
        TimberValley z = pond(1);
        z.order(2, 2, 9, 1, 9);
        Edge.is(z, 2, "best", 0);
        boards(z, "..0..0..");
    }

    private static void unitsTheLogHas() {
        Edge.says("for ORDERS whose UNITS the LOG has");
        for (int units = 2; units <= 6; units++) {
            TimberValley x = new TimberValley();
            x.mill(0);
            x.crew(0);
            x.stand(0, 0, 1, 1);
            x.fall(0, 0, 0, 1, units);
            x.day();
            for (int needed = 6; needed >= 2; needed--) {
                x.order(1, needed, 9, 1, 9);
                Check.is("a log of " + units + " for " + needed, needed <= units ? 1 : 0, Math.min(1, x.best(0)));
            }
        }
    }

    private static void lackBoards() {
        Edge.says("that lack BOARDS, and whose ship hasn't gone (its DAY is that at hand or later)");
        TimberValley x = pond(NO_FAULT);
        x.fall(0, NO_FAULT, 0, 0, 2);
        x.fall(0, NO_FAULT, 0, 0, 2);
        x.day();
        x.order(4, 2, 2, 10, 9);
        x.order(8, 2, 9, 1, 9);
        Edge.is(x, 10, "best", 0);
        Edge.is(x, 1, "saw", 0);
        Edge.is(x, 1, "orderOf", 0, 0);
        Edge.is(x, 10, "best", 1);
        Edge.is(x, 1, "saw", 1);
        Edge.is(x, 0, "orderOf", 0, 0);
        // log 2 has its FAULT at 0: 8 and 14 by 11 leave 0
        Edge.is(x, 0, "log", 2, 8);
        Edge.is(x, 0, "best", 2);
        x.order(4, 2, 1, 3, 9);
        Edge.is(x, 3, "best", 2);
        Edge.is(x, 2, "board", 2, 1);
    }

    private static void shipHasGone() {
        Edge.says("(its DAY is that at hand or later)");
        TimberValley x = pond(NO_FAULT);
        x.order(4, 2, 9, 10, 3);
        Edge.is(x, 1, "count", 0);
        Edge.is(x, 10, "best", 0);
        x.day();
        Edge.is(x, 10, "best", 0);
        x.day();
        Edge.is(x, 3, "count", 0);
        Edge.is(x, 10, "best", 0);
        x.day();
        Edge.is(x, 0, "best", 0);
        boards(x, "........");
        Edge.is(x, 0, "saw", 0);
        Edge.is(x, 9, "orderOf", 0, 0);
        Edge.is(x, -1, "orderOf", 0, 1);
    }

    private static void asManyAsOneLikes() {
        Edge.says("the greatest sum of PRICES (as if they lacked as many as one likes)");
        TimberValley x = pond(NO_FAULT);
        x.order(1, 2, 1, 5, 9);
        x.order(2, 2, 99, 4, 9);
        // four of 5, though one is lacked; not that one and two of 4
        Edge.is(x, 20, "best", 0);
        boards(x, "0.0.0.0.");
        Edge.is(x, 4, "saw", 0);
        Edge.is(x, 3, "count", 8);
        Edge.is(x, 0, "orderOf", 0, 0);
        Edge.is(x, 99, "orderOf", 1, 0);
    }

    private static void firstRow() {
        Edge.says("of several the first row, place by place: the ORDER of the least number first, "
                + "a place that is left behind all.");
        TimberValley x = pond(NO_FAULT);
        x.order(2, 2, 9, 5, 9);
        x.order(2, 2, 9, 5, 9);
        boards(x, "0..0..0.");
        TimberValley y = pond(NO_FAULT);
        // 4 then 3, or 3 then 4
        y.order(3, 2, 9, 5, 9);
        y.order(4, 2, 9, 6, 9);
        Edge.is(y, 11, "best", 0);
        boards(y, "0...1...");
        TimberValley z = pond(NO_FAULT);
        z.order(4, 2, 9, 6, 9);
        z.order(3, 2, 9, 5, 9);
        boards(z, "0....1..");
        TimberValley one = pond(NO_FAULT);
        // one of 10, or two of 5
        one.order(8, 2, 9, 10, 9);
        one.order(3, 2, 9, 5, 9);
        boards(one, "0.......");
        TimberValley two = pond(NO_FAULT);
        two.order(3, 2, 9, 5, 9);
        two.order(8, 2, 9, 10, 9);
        boards(two, "0...0...");
    }

    private static void leftBehindAll() {
        Edge.says("a place that is left behind all.");
        for (int thick = 4; thick <= 8; thick++) {
            TimberValley x = pond(NO_FAULT);
            x.order(thick, 2, 9, 5, 9);
            boards(x, "0.......");
        }
        TimberValley x = pond(5);
        // 2 fits twice ahead of the FAULT, and once behind it
        x.order(2, 2, 9, 5, 9);
        Edge.is(x, 15, "best", 0);
        boards(x, "0..0..0.");
        TimberValley y = pond(6);
        // 3 fits at 0, 1, 2 and 3: the first is taken, and nothing has room behind it
        y.order(3, 2, 9, 5, 9);
        Edge.is(y, 5, "best", 0);
        boards(y, "0.......");
    }

    private static void toStock() {
        Edge.says("Its BOARDS go to their ORDERS (above what they lack: to STOCK).");
        for (int lacked = 1; lacked <= 6; lacked++) {
            TimberValley x = pond(NO_FAULT);
            x.order(1, 2, lacked, 5, 9);
            Edge.is(x, 4, "saw", 0);
            Edge.is(x, lacked < 4 ? 0 : lacked - 4, "orderOf", 0, 0);
            Edge.is(x, lacked < 4 ? 4 - lacked : 0, "count", 8);
            Edge.is(x, lacked <= 4 ? 1 : -1, "orderOf", 0, 1);
            Edge.is(x, 2, "log", 0, 6);
            Edge.is(x, 1, "count", 22);
            Edge.is(x, 0, "count", 21);
        }
    }

    private static void metAndEarly() {
        Edge.says("An ORDER is MET on the DAY on which it lacks none; EARLY: the DAY of its ship less that.");
        TimberValley x = pond(NO_FAULT);
        x.fall(0, NO_FAULT, 0, 0, 2);
        x.order(4, 2, 2, 1, 5);
        x.order(4, 2, 1, 1, 3);
        x.saw(0);
        Edge.is(x, 1, "orderOf", 0, 0);
        Edge.is(x, -1, "orderOf", 0, 1);
        Edge.is(x, Edge.THROWS, "orderOf", 0, 2);
        Check.days(x, 2);
        Edge.is(x, 3, "count", 0);
        x.saw(1);
        Edge.is(x, 0, "orderOf", 0, 0);
        Edge.is(x, 3, "orderOf", 0, 1);
        Edge.is(x, 2, "orderOf", 0, 2);
        Edge.is(x, Edge.THROWS, "orderOf", 1, 2);
        x.fall(0, NO_FAULT, 0, 0, 2);
        x.order(4, 2, 1, 1, 4);
        x.day();
        Edge.is(x, 1, "saw", 2);
        Edge.is(x, 4, "orderOf", 2, 1);
        Edge.is(x, 0, "orderOf", 2, 2);
        Check.days(x, 5);
        Edge.is(x, 3, "orderOf", 0, 1);
        Edge.is(x, 2, "orderOf", 0, 2);
        TimberValley first = new TimberValley();
        first.order(1, 2, 1, 1, 0);
        Edge.is(first, -1, "orderOf", 0, 1);
        Edge.is(first, Edge.THROWS, "orderOf", 0, 2);
    }

    private static void nothingSawn() {
        Edge.says("TO SAW: how many BOARDS.");
        TimberValley x = pond(NO_FAULT);
        Edge.is(x, 0, "best", 0);
        Edge.is(x, 0, "saw", 0);
        Edge.is(x, 2, "log", 0, 6);
        Edge.is(x, 0, "count", 8);
        Edge.is(x, -1, "saw", 0);
        Edge.is(x, -1, "best", 0);
        Edge.is(x, -1, "board", 0, 0);
    }

    private static void orderOfNumbers() {
        Edge.says("Of an ORDER what 0 BOARDS it lacks, 1 the DAY on which it was MET (NONE), 2 EARLY. "
                + "NoSuchElementException: no such ones, EARLY of one that isn't MET.");
        for (int order : new int[] {-1, 3, LOW, HIGH}) {
            for (int what = 0; what <= 2; what++) {
                Edge.refuses(RICH, Edge.THROWS, "orderOf", order, what);
            }
        }
        for (int what : new int[] {-1, 3, LOW, HIGH}) {
            Edge.refuses(RICH, Edge.THROWS, "orderOf", 0, what);
        }
        Edge.refuses(RICH, Edge.THROWS, "orderOf", 1, 2);
        Edge.refuses(RICH, Edge.THROWS, "orderOf", 2, 2);
        long[][] due = {{0, 4, 0}, {58, -1, Edge.THROWS}, {1, -1, Edge.THROWS}};
        TimberValley x = Edge.made(RICH);
        for (int order = 0; order < 3; order++) {
            for (int what = 0; what < 3; what++) {
                Edge.is(x, due[order][what], "orderOf", order, what);
            }
        }
    }
}
