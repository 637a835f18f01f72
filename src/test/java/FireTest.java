/** Promises 37 and 38: fires that go by wind, and slash that is burnt. */
public final class FireTest {
    public static void main(String[] args) {
        wrong();
        fuelEdges();
        winds();
        heights();
        steps();
        whatIsLeft();
        slashAlone();
        burning();
        Check.end();
    }

    private static void wrong() {
        TimberValley x = new TimberValley();
        x.stand(0, 0, 0, 100);
        Check.is("cell", -1, x.fire(-1, 0, 1));
        Check.is("cell", -1, x.fire(64, 0, 1));
        Check.is("wind", -1, x.fire(0, -1, 1));
        Check.is("wind", -1, x.fire(0, 4, 1));
        Check.is("steps", -1, x.fire(0, 0, 0));
        Check.is("steps", -1, x.fire(0, 0, 21));
        Check.is("burn", -1, x.burn(-1));
        Check.is("burn", -1, x.burn(64));
        Check.is("nothing burnt", 100, x.of(0, 4));
        Check.is("the first cell burns in any case", 1, x.fire(63, 0, 20));
    }

    private static int burnt(int dry, int stems, int wind) {
        TimberValley x = new TimberValley();
        x.weather(0, 0, 5, dry);
        for (int c = 0; c < 4 && stems > 0; c++) {
            x.stand(28, 0, c, Math.min(stems, 200));
            stems -= Math.min(stems, 200);
        }
        return x.fire(27, wind, 1);
    }

    private static void fuelEdges() {
        Check.is("15 and 4.9", 1, burnt(3, 49, 2));
        Check.is("15 and 5", 2, burnt(3, 50, 2));
        Check.is("8 with the wind, 15", 2, burnt(3, 1, 0));
        Check.is("8 with the wind, 10 and 1", 1, burnt(2, 19, 0));
        Check.is("8 with the wind, 10 and 2", 2, burnt(2, 20, 0));
        Check.is("8 against the wind, 15 and 12", 1, burnt(3, 129, 1));
        Check.is("8 against the wind, 15 and 13", 2, burnt(3, 130, 1));
        Check.is("no stems", 1, burnt(9, 0, 0));
        Check.is("one stem", 2, burnt(4, 1, 3));
    }

    private static void winds() {
        int[] with = {28, 26, 35, 19};
        for (int wind = 0; wind < 4; wind++) {
            TimberValley x = new TimberValley();
            for (int i = 0; i < 4; i++) {
                x.stand(with[i], 0, 0, 1);
            }
            Check.is("with the wind alone", 2, x.fire(27, wind, 1));
            for (int i = 0; i < 4; i++) {
                Check.is("cell " + with[i], i == wind ? 0 : 1, x.of(with[i], 4));
            }
            x.weather(0, 0, 0, 4);
            Check.is("not against the wind", 3, x.fire(27, wind, 1));
            Check.is("against", 1, x.of(with[wind ^ 1], 4));
        }
        TimberValley x = new TimberValley();
        x.weather(0, 0, 0, 9);
        x.stand(8, 0, 0, 1);
        Check.is("the row's end is no way", 1, x.fire(7, 0, 20));
    }

    private static void heights() {
        TimberValley x = new TimberValley();
        x.stand(28, 0, 3, 10);
        Check.is("15 and 1", 1, x.fire(27, 2, 1));
        x.cell(28, 1);
        Check.is("4 for the climb", 2, x.fire(27, 2, 1));
        Check.is("half", 5, x.of(28, 4));
        Check.is("15 and 4 and 0", 1, x.fire(27, 2, 1));
        x.stand(28, 0, 3, 40);
        x.cell(27, 1);
        Check.is("no climb", 1, x.fire(27, 2, 1));
        x.cell(27, 2);
        Check.is("it falls", 1, x.fire(27, 2, 1));
    }

    private static void steps() {
        for (int steps = 1; steps <= 20; steps++) {
            TimberValley x = new TimberValley();
            x.weather(0, 0, 0, 9);
            for (int cell = 0; cell < 64; cell++) {
                x.stand(cell, 0, 0, 1);
            }
            int due = 0;
            for (int cell = 0; cell < 64; cell++) {
                due += cell % 8 + cell / 8 <= steps ? 1 : 0;
            }
            Check.is("steps " + steps, due, x.fire(0, 0, steps));
            for (int cell = 0; cell < 64; cell++) {
                Check.is("cell", cell % 8 + cell / 8 <= steps ? 0 : 1, x.of(cell, 4));
            }
        }
    }

    private static void whatIsLeft() {
        TimberValley x = new TimberValley();
        x.crew(0);
        x.mill(30);
        for (int sort = 0; sort < 4; sort++) {
            for (int c = 0; c < 4; c++) {
                x.stand(20, sort, c, 11 + sort);
            }
        }
        x.stand(30, 0, 0, 2);
        x.fall(0, 20, 0, 0, 22);
        x.fall(0, 30, 0, 0, 2);
        x.day();
        x.fall(0, 30, 0, 0, 2);
        Check.is("fire", 1, x.fire(20, 0, 1));
        for (int sort = 0; sort < 4; sort++) {
            Check.is("class 0", 0, x.of(20, 5 + 4 * sort));
            Check.is("class 1", 0, x.of(20, 6 + 4 * sort));
            Check.is("class 2", (11 + sort) / 2, x.of(20, 7 + 4 * sort));
            Check.is("class 3", (11 + sort) / 2, x.of(20, 8 + 4 * sort));
        }
        Check.is("slash", 0, x.of(20, 1));
        Check.is("burnt", 3, x.log(0, 6));
        Check.is("burnt", 3, x.log(1, 6));
        Check.is("none lies", 0, x.of(20, 2));
        Check.is("burnt logs", 2, x.count(23));
        Check.is("fire", 1, x.fire(30, 0, 1));
        Check.is("in the pond", 1, x.log(2, 6));
        Check.is("it lay", 3, x.log(3, 6));
        Check.is("burnt logs", 3, x.count(23));
        x.way(0, 20, 21);
        Check.is("burnt logs aren't carried", 0, x.day());
    }

    private static void slashAlone() {
        TimberValley x = new TimberValley();
        x.crew(0);
        x.stand(28, 0, 0, 2);
        x.fall(0, 28, 0, 0, 2);
        x.fall(0, 28, 0, 0, 2);
        Check.is("slash 6 and 15", 2, x.fire(27, 2, 1));
        Check.is("slash", 0, x.of(28, 1));
        Check.is("nothing to burn there", 1, x.fire(27, 0, 1));
        x.stand(28, 0, 0, 1);
        x.fall(0, 28, 0, 0, 2);
        Check.is("slash 3 and 15", 1, x.fire(27, 2, 1));
    }

    private static void fromTheRim() {
        TimberValley x = new TimberValley();
        x.weather(0, 0, 0, 9);
        int[] around = {10, 8, 17, 1};
        for (int cell : around) {
            x.stand(cell, 0, 2, 8);
        }
        Check.is("all four", 5, x.fire(9, 0, 1));
        x.stand(0, 0, 2, 8);
        x.stand(9, 0, 2, 8);
        Check.is("the first cell", 1 + 2, x.fire(0, 0, 1));
        Check.is("half", 4, x.of(0, 4));
        Check.is("another fire, elsewhere", 1, x.fire(60, 0, 1));
        Check.is("burns it no more", 4, x.of(0, 4));
        Check.is("nor that", 8, x.of(9, 4));
    }

    private static void burning() {
        TimberValley x = new TimberValley();
        x.crew(0);
        x.stand(28, 0, 2, 9);
        x.stand(29, 0, 0, 1);
        x.stand(30, 0, 0, 1);
        x.stand(31, 0, 0, 1);
        x.fall(0, 28, 0, 2, 2);
        Check.is("burn", 0, x.burn(28));
        Check.is("slash", 0, x.of(28, 1));
        Check.is("stems stay", 8, x.of(28, 4));
        Check.is("logs stay", 0, x.log(0, 6));
        x.fall(0, 28, 0, 2, 2);
        x.weather(0, 0, 0, 6);
        Check.is("burn", 0, x.burn(28));
        x.weather(0, 0, 0, 7);
        Check.is("law", 1, Check.law(x, 0, "bar fire if cell=28;"));
        x.fall(0, 28, 0, 2, 2);
        Check.is("barred", -2, x.burn(28));
        Check.is("barred", 3, x.of(28, 1));
        Check.is("law", 2, Check.law(x, 0, "bar fire if cell=29;bar cut if cell=28;"));
        Check.is("three steps", 4, x.burn(28));
        Check.is("half", 3, x.of(28, 4));
        Check.is("logs", 3, x.count(23));
        Check.is("gone", 0, x.of(31, 4));
        x.stand(27, 0, 0, 1);
        x.stand(29, 0, 0, 1);
        Check.is("35 and the wind either way", 3, x.burn(28));
        x.weather(0, 0, 0, 8);
        Check.is("an empty cell burns too", 1, x.burn(60));
        for (int cell = 0; cell < 64; cell++) {
            x.stand(cell, 0, 0, 1);
        }
        Check.is("three steps, not four", 10, x.burn(0));
        fromTheRim();
    }
}
