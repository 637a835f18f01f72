/** The edges of part 6 and of promises 37 and 38: fires, and slash that is burnt. */
public final class EdgeFireTest {
    private static final Edge.Run RICH = Valleys::rich;
    private static final int LOW = Integer.MIN_VALUE;
    private static final int HIGH = Integer.MAX_VALUE;
    private static final int[] BESIDE = {28, 26, 35, 19};

    public static void main(String[] args) {
        fireNumbers();
        steps();
        firstCell();
        stemsOrSlash();
        fuelBySlash();
        fuelByStems();
        fuelByDry();
        fuelByWind();
        fuelByHeight();
        allTogether();
        theRim();
        burnsOnce();
        whatIsLeft();
        logsThere();
        burnNumbers();
        slashIsNone();
        dryEnough();
        threeStepsByWind();
        Check.end();
    }

    private static void fireNumbers() {
        Edge.says("A FIRE: how many CELLS burn. NONE: no such CELL, wind, steps.");
        for (int cell : new int[] {-1, 64, LOW, HIGH}) {
            Edge.refuses(RICH, -1, "fire", cell, 0, 1);
        }
        for (int wind : new int[] {-1, 4, LOW, HIGH}) {
            Edge.refuses(RICH, -1, "fire", 10, wind, 1);
        }
        for (int steps : new int[] {0, -1, 21, LOW, HIGH}) {
            Edge.refuses(RICH, -1, "fire", 10, 0, steps);
        }
        // 11 with the wind; 9 against it has 25 and 3 less 8
        Edge.changes(RICH, 3, "fire", 10, 0, 1);
        Edge.changes(RICH, 1, "fire", 63, 3, 20);
        Edge.is(new TimberValley(), 1, "fire", 0, 0, 1);
        Edge.is(new TimberValley(), 1, "fire", 63, 3, 20);
    }

    /** A row of CELLS 0 to 7 and on to 15, 14, .. 8: a fire takes a step for each. */
    private static void steps() {
        Edge.says("A FIRE begins in a CELL; steps (1 to 20): each CELL that burns sets fire to each side by side");
        for (int steps = 1; steps <= 20; steps++) {
            TimberValley x = new TimberValley();
            x.weather(0, 0, 0, 9);
            // a path that winds: 0 to 7, 15, 23 to 16, 24, 32 to 35
            int[] path = {0, 1, 2, 3, 4, 5, 6, 7, 15, 23, 22, 21, 20, 19, 18, 17, 16, 24, 32, 33, 34, 35};
            for (int cell : path) {
                x.stand(cell, 0, 0, 1);
            }
            Check.is("steps " + steps, steps + 1, x.fire(0, 0, steps));
            for (int i = 0; i < path.length; i++) {
                Edge.is(x, i <= steps ? 0 : 1, "of", path[i], 4);
            }
        }
    }

    private static void firstCell() {
        Edge.says("The first CELL burns in any case; a CELL burns once.");
        TimberValley x = new TimberValley();
        x.weather(0, 0, 0, 0);
        Edge.is(x, 1, "fire", 27, 0, 20);
        x.stand(27, 0, 2, 1);
        x.stand(27, 0, 0, 9);
        Edge.is(x, 1, "fire", 27, 0, 20);
        Edge.is(x, 0, "of", 27, 4);
    }

    private static void stemsOrSlash() {
        Edge.says("that has STEMS or SLASH and whose FUEL is 20 or more");
        TimberValley x = new TimberValley();
        x.weather(0, 0, 0, 9);
        x.cell(28, 40);
        Edge.is(x, 1, "fire", 27, 0, 1);
        x.stand(28, 3, 3, 1);
        Edge.is(x, 2, "fire", 27, 0, 1);
        Edge.is(x, 0, "of", 28, 4);
        Edge.is(x, 1, "fire", 27, 0, 1);
        TimberValley slash = new TimberValley();
        slash.weather(0, 0, 0, 9);
        slash.crew(0);
        slash.stand(28, 0, 0, 1);
        slash.fall(0, 28, 0, 0, 4);
        Edge.is(slash, 0, "of", 28, 4);
        Edge.is(slash, 2, "fire", 27, 0, 1);
        // the LOG that lay there is no fuel
        Edge.is(slash, 1, "fire", 27, 0, 1);
    }

    /** How many burn from CELL 27 with a CELL beside it that has so much, and wind across. */
    private static int burnt(int dry, int slash, int stems, int wind, int climb) {
        TimberValley x = new TimberValley();
        x.weather(0, 0, 0, dry);
        x.crew(0);
        for (int i = 0; i < slash / 3; i++) {
            x.stand(28, 0, 0, 1);
            x.fall(0, 28, 0, 0, 4);
        }
        for (int i = 0; i < 16 && stems > 0; i++) {
            x.stand(28, i / 4, i % 4, Math.min(200, stems));
            stems -= Math.min(200, stems);
        }
        x.cell(27, 10);
        x.cell(28, 10 + climb);
        return x.fire(27, wind, 1);
    }

    private static void fuelBySlash() {
        Edge.says("whose FUEL is 20 or more: SLASH, a tenth of its STEMS, and 5 times DRY");
        Check.is("18", 1, burnt(0, 18, 0, 2, 0));
        Check.is("21", 2, burnt(0, 21, 0, 2, 0));
        Check.is("3 and 15", 1, burnt(3, 3, 0, 2, 0));
        Check.is("6 and 15", 2, burnt(3, 6, 0, 2, 0));
        Check.is("18 and 1", 1, burnt(0, 18, 19, 2, 0));
        Check.is("18 and 2", 2, burnt(0, 18, 20, 2, 0));
    }

    private static void fuelByStems() {
        Edge.says("a tenth of its STEMS");
        Check.is("199 by 10", 1, burnt(0, 0, 199, 2, 0));
        Check.is("200 by 10", 2, burnt(0, 0, 200, 2, 0));
        Check.is("99 by 10 and 10", 1, burnt(2, 0, 99, 2, 0));
        Check.is("100 by 10 and 10", 2, burnt(2, 0, 100, 2, 0));
        Check.is("of all sorts and classes", 2, burnt(0, 0, 3200, 2, 0));
        TimberValley x = new TimberValley();
        x.weather(0, 0, 0, 0);
        for (int i = 0; i < 16; i++) {
            x.stand(28, i / 4, i % 4, 12);
        }
        Edge.is(x, 1, "fire", 27, 2, 1);
        x.stand(28, 3, 3, 20);
        Edge.is(x, 2, "fire", 27, 2, 1);
    }

    private static void fuelByDry() {
        Edge.says("5 times DRY");
        for (int dry = 0; dry <= 9; dry++) {
            Check.is("dry " + dry, dry >= 4 ? 2 : 1, burnt(dry, 0, 1, 2, 0));
        }
    }

    private static void fuelByWind() {
        Edge.says("8 more with the wind (0 x more, 1 x less, 2 y more, 3 y less), 8 less against it");
        // 10 and 2 and 8 is 20; 15 and 13 less 8 is 20
        Check.is("with it", 2, burnt(2, 0, 20, 0, 0));
        Check.is("with it, 1 less", 1, burnt(2, 0, 19, 0, 0));
        Check.is("against it", 2, burnt(3, 0, 130, 1, 0));
        Check.is("against it, 1 less", 1, burnt(3, 0, 129, 1, 0));
        for (int wind = 0; wind < 4; wind++) {
            for (int side = 0; side < 4; side++) {
                int aid = side == wind ? 8 : (side ^ 1) == wind ? -8 : 0;
                int stems = 10 * (20 - 10 - aid);
                TimberValley x = new TimberValley();
                x.weather(0, 0, 0, 2);
                x.stand(BESIDE[side], 0, 3, stems - 1);
                Check.is("wind " + wind + " side " + side, 1, x.fire(27, wind, 1));
                x.stand(BESIDE[side], 0, 3, stems);
                Check.is("wind " + wind + " side " + side, 2, x.fire(27, wind, 1));
            }
        }
    }

    private static void fuelByHeight() {
        Edge.says("4 more if it is higher, all together.");
        Check.is("higher by 1", 2, burnt(3, 0, 10, 2, 1));
        Check.is("higher by 30", 2, burnt(3, 0, 10, 2, 30));
        Check.is("higher, 1 less", 1, burnt(3, 0, 9, 2, 1));
        Check.is("level", 1, burnt(3, 0, 49, 2, 0));
        Check.is("lower", 1, burnt(3, 0, 49, 2, -1));
        Check.is("level", 2, burnt(3, 0, 50, 2, 0));
        Check.is("lower", 2, burnt(3, 0, 50, 2, -10));
    }

    private static void allTogether() {
        Edge.says("all together.");
        // 3, 1, 5, 8, 4 are 21; one less of each is too little
        Check.is("21", 2, burnt(1, 3, 10, 0, 1));
        Check.is("20", 2, burnt(1, 3, 9, 0, 1));
        Check.is("18", 1, burnt(1, 0, 10, 0, 1));
        Check.is("17", 1, burnt(1, 3, 10, 0, 0));
        Check.is("16", 1, burnt(0, 3, 10, 0, 1));
        Check.is("13", 1, burnt(1, 3, 10, 2, 1));
    }

    private static void theRim() {
        Edge.says("each CELL that burns sets fire to each side by side");
        for (int from = 0; from < 64; from++) {
            TimberValley x = new TimberValley();
            x.weather(0, 0, 0, 9);
            for (int cell = 0; cell < 64; cell++) {
                x.stand(cell, 0, 0, 1);
            }
            int due = 1 + (from % 8 > 0 ? 1 : 0) + (from % 8 < 7 ? 1 : 0) + (from / 8 > 0 ? 1 : 0)
                    + (from / 8 < 7 ? 1 : 0);
            Check.is("from " + from, due, x.fire(from, 0, 1));
            for (int cell = 0; cell < 64; cell++) {
                int apart = Math.abs(cell % 8 - from % 8) + Math.abs(cell / 8 - from / 8);
                Edge.is(x, apart <= 1 ? 0 : 1, "of", cell, 4);
            }
        }
        TimberValley all = new TimberValley();
        all.weather(0, 0, 0, 9);
        for (int cell = 0; cell < 64; cell++) {
            all.stand(cell, 0, 0, 1);
        }
        Check.is("all burn", 64, all.fire(0, 0, 14));
        Check.is("none is left", 0, all.count(13));
        for (int row = 0; row < 7; row++) {
            TimberValley x = new TimberValley();
            x.weather(0, 0, 0, 9);
            x.stand(8 * row + 8, 0, 0, 1);
            Check.is("the row's end", 1, x.fire(8 * row + 7, 0, 20));
            x.stand(8 * row + 8, 0, 0, 0);
            x.stand(8 * row + 7, 0, 0, 1);
            Check.is("the row's begin", 1, x.fire(8 * row + 8, 1, 20));
        }
    }

    private static void burnsOnce() {
        Edge.says("a CELL burns once.");
        TimberValley x = new TimberValley();
        x.weather(0, 0, 0, 9);
        x.stand(27, 0, 3, 100);
        x.stand(28, 0, 3, 100);
        Edge.is(x, 2, "fire", 27, 0, 20);
        Edge.is(x, 50, "of", 27, 4);
        Edge.is(x, 50, "of", 28, 4);
        Edge.is(x, 2, "fire", 28, 0, 20);
        Edge.is(x, 25, "of", 27, 4);
        Edge.is(x, 25, "of", 28, 4);
        // another FIRE elsewhere leaves alone what burnt in the one ahead
        for (int cell = 0; cell < 64; cell++) {
            TimberValley y = new TimberValley();
            y.stand(cell, 0, 3, 100);
            Edge.is(y, 1, "fire", cell, 0, 1);
            int other = (cell + 20) % 64;
            Edge.is(y, 1, "fire", other, 0, 1);
            Edge.is(y, 50, "of", cell, 4);
        }
    }

    private static void whatIsLeft() {
        Edge.says("What burns is then without STEMS of CLASSES 0 and 1 and without SLASH, half of the other STEMS "
                + "(rounded down) are left, LOGS that lie there are BURNT.");
        for (int many : new int[] {0, 1, 2, 3, 199, 200}) {
            TimberValley x = new TimberValley();
            x.weather(0, 0, 0, 9);
            x.crew(0);
            x.stand(27, 0, 0, 2);
            x.fall(0, 27, 0, 0, 4);
            for (int kind = 0; kind < 16; kind++) {
                x.stand(27, kind / 4, kind % 4, many);
                x.stand(29, kind / 4, kind % 4, many);
            }
            Edge.is(x, 1, "fire", 27, 0, 1);
            for (int kind = 0; kind < 16; kind++) {
                Edge.is(x, kind % 4 < 2 ? 0 : many / 2, "of", 27, 5 + kind);
                Edge.is(x, many, "of", 29, 5 + kind);
            }
            Edge.is(x, 0, "of", 27, 1);
            Edge.is(x, 3, "log", 0, 6);
        }
    }

    private static void logsThere() {
        Edge.says("LOGS that lie there are BURNT.");
        TimberValley x = new TimberValley();
        x.crew(0);
        x.mill(27);
        x.stand(27, 0, 0, 9);
        x.stand(28, 0, 0, 9);
        x.fall(0, 27, 0, 0, 22);
        x.day();
        x.saw(0);
        x.fall(0, 27, 0, 0, 22);
        x.fall(0, 28, 0, 0, 22);
        x.fall(0, 28, 0, 0, 22);
        Edge.is(x, 1, "fire", 27, 1, 1);
        int[] due = {2, 1, 3, 3, 0, 0, 0, 0};
        for (int log = 0; log < 8; log++) {
            Edge.is(x, due[log], "log", log, 6);
        }
        Edge.is(x, 2, "count", 23);
        Edge.is(x, 0, "of", 27, 2);
        Edge.is(x, 4, "of", 28, 2);
        Edge.is(x, 0, "day");
        Edge.is(x, 3, "log", 2, 6);
        Edge.is(x, 2, "fire", 27, 0, 1);
        Edge.is(x, 6, "count", 23);
        Edge.is(x, 1, "count", 21);
    }

    private static void burnNumbers() {
        Edge.says("TO BURN SLASH: how many CELLS burn by a FIRE (0: none). NONE: no such CELL; -2: it MAY not.");
        for (int cell : new int[] {-1, 64, LOW, HIGH}) {
            Edge.refuses(RICH, -1, "burn", cell);
        }
        Edge.refuses(RICH, -2, "burn", 63);
        Edge.changes(RICH, 0, "burn", 10);
        Edge.refuses(RICH, 0, "burn", 0);
        Edge.Run dry = x -> {
            Valleys.rich(x);
            x.weather(6, 0, 0, 9);
        };
        Edge.refuses(dry, -2, "burn", 63);
        Edge.changes(dry, 3, "burn", 10);
    }

    private static void slashIsNone() {
        Edge.says("TO BURN SLASH of a CELL, if it MAY: it is 0");
        TimberValley x = new TimberValley();
        x.crew(0);
        x.stand(9, 0, 2, 9);
        x.stand(10, 0, 2, 9);
        x.fall(0, 9, 0, 2, 6);
        x.fall(0, 10, 0, 2, 6);
        Edge.is(x, 0, "burn", 9);
        Edge.is(x, 0, "of", 9, 1);
        Edge.is(x, 3, "of", 10, 1);
        Edge.is(x, 8, "of", 9, 4);
        Edge.is(x, 0, "log", 0, 6);
        Edge.is(x, 0, "burn", 9);
        Edge.is(x, 0, "burn", 0);
        Edge.is(x, 0, "burn", 63);
    }

    private static void dryEnough() {
        Edge.says("if DRY is 7 or more a FIRE of 3 steps begins there, with the wind 0.");
        for (int dry = 0; dry <= 9; dry++) {
            TimberValley x = new TimberValley();
            x.crew(0);
            x.stand(9, 0, 2, 9);
            x.fall(0, 9, 0, 2, 6);
            x.weather(0, 0, 0, dry);
            Edge.is(x, dry >= 7 ? 1 : 0, "burn", 9);
            Edge.is(x, 0, "of", 9, 1);
            Edge.is(x, dry >= 7 ? 4 : 8, "of", 9, 4);
            Edge.is(x, dry >= 7 ? 3 : 0, "log", 0, 6);
        }
    }

    private static void threeStepsByWind() {
        Edge.says("a FIRE of 3 steps begins there, with the wind 0.");
        for (int side = 0; side < 4; side++) {
            int[] off = {1, -1, 8, -8};
            TimberValley x = new TimberValley();
            x.weather(0, 0, 0, 7);
            for (int far = 1; far <= 4; far++) {
                int cell = 36 + far * off[side];
                if (cell % 8 == 36 % 8 || cell / 8 == 36 / 8) {
                    x.stand(cell, 0, 0, 1);
                }
            }
            Check.is("three of them", 4, x.burn(36));
        }
        // 35 less 8 is still enough: where slash may kindle, no wind can hold it
        TimberValley x = new TimberValley();
        x.weather(0, 0, 0, 7);
        x.stand(35, 0, 0, 1);
        x.stand(37, 0, 0, 1);
        Check.is("either way", 3, x.burn(36));
    }
}
