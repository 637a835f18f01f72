/** Promises 1 to 7 and 52: a new object, cells, stands, sorts, the mill, weather, growth. */
public final class LandTest {
    public static void main(String[] args) {
        newObject();
        cells();
        stands();
        sorts();
        mill();
        weather();
        manyTellings();
        years();
        Check.end();
    }

    private static void newObject() {
        TimberValley x = new TimberValley();
        for (int what = 0; what <= 13; what++) {
            Check.is("count(" + what + ")", 0, x.count(what));
        }
        for (int cell = 0; cell < 64; cell++) {
            Check.is("height", 0, x.of(cell, 0));
            Check.is("slash", 0, x.of(cell, 1));
            Check.is("lying", 0, x.of(cell, 2));
            Check.is("far", cell % 8 + cell / 8, x.of(cell, 3));
            Check.is("stems", 0, x.of(cell, 4));
        }
        Check.is("place", -1, x.place());
        Check.is("iron", 0, x.iron(0));
        Check.is("end", 0, x.end(0));
    }

    private static void cells() {
        TimberValley x = new TimberValley();
        Check.yes("cell", x.cell(0, 40));
        Check.yes("cell", x.cell(63, 0));
        Check.no("cell", x.cell(-1, 3));
        Check.no("cell", x.cell(64, 3));
        Check.no("height", x.cell(0, 41));
        Check.no("height", x.cell(0, -1));
        Check.is("of", 40, x.of(0, 0));
        Check.is("of", -1, x.of(64, 0));
        Check.is("of", -1, x.of(-1, 0));
        Check.is("of", -1, x.of(0, -1));
        Check.is("of", -1, x.of(0, 21));
        Check.is("of", 0, x.of(0, 20));
    }

    private static void stands() {
        TimberValley x = new TimberValley();
        int all = 0;
        for (int sort = 0; sort < 4; sort++) {
            for (int c = 0; c < 4; c++) {
                int many = 10 * sort + c + 1;
                all += many;
                Check.yes("stand", x.stand(7, sort, c, many));
                Check.is("of", many, x.of(7, 5 + 4 * sort + c));
            }
        }
        Check.is("all in it", all, x.of(7, 4));
        Check.is("all", all, x.count(13));
        Check.yes("in place of", x.stand(7, 0, 0, 200));
        Check.is("of", 200, x.of(7, 5));
        Check.no("many", x.stand(7, 0, 0, 201));
        Check.no("many", x.stand(7, 0, 0, -1));
        Check.no("sort", x.stand(7, 4, 0, 1));
        Check.no("sort", x.stand(7, -1, 0, 1));
        Check.no("class", x.stand(7, 0, 4, 1));
        Check.no("class", x.stand(7, 0, -1, 1));
        Check.no("cell", x.stand(-1, 0, 0, 1));
        Check.is("of", 200, x.of(7, 5));
        Check.yes("none", x.stand(7, 0, 0, 0));
        Check.is("all", all - 1, x.count(13));
    }

    private static void sorts() {
        TimberValley x = new TimberValley();
        Check.no("sort", x.sort(4, 20, 1));
        Check.no("sort", x.sort(-1, 20, 1));
        Check.no("grow", x.sort(0, 101, 1));
        Check.no("grow", x.sort(0, -1, 1));
        Check.no("taper", x.sort(0, 20, 0));
        Check.no("taper", x.sort(0, 20, 4));
        Check.is("taper is 1", 10 * 8, x.worth(0, 0, 2));
        Check.yes("sort", x.sort(0, 0, 3));
        Check.is("taper is 3", 10 * 4, x.worth(0, 0, 2));
        Check.is("at least 1 wide", 10 * 1, x.worth(0, 0, 4));
        Check.is("others are as they were", 10 * 9, x.worth(1, 0, 2));
    }

    private static void mill() {
        TimberValley x = new TimberValley();
        Check.no("mill", x.mill(64));
        Check.no("mill", x.mill(-1));
        Check.yes("mill", x.mill(63));
        Check.is("far", 14, x.of(0, 3));
        Check.is("far", 0, x.of(63, 3));
        Check.is("far", 3 + 4, x.of(4 + 3 * 8, 3));
        Check.yes("mill", x.mill(9));
        Check.is("far", 2, x.of(0, 3));
        x.crew(0);
        x.stand(0, 0, 0, 1);
        x.fall(0, 0, 0, 0, 0);
        Check.no("a log has come", x.mill(10));
        Check.no("a log has come", x.mill(9));
        Check.is("far", 2, x.of(0, 3));
    }

    private static void weather() {
        TimberValley x = new TimberValley();
        Check.is("snow", 0, x.weatherOf(0, 0));
        Check.is("water", 5, x.weatherOf(3999, 1));
        Check.is("dry", 3, x.weatherOf(17, 2));
        Check.yes("told", x.weather(10, 1, 2, 4));
        Check.yes("told", x.weather(5, 9, 9, 9));
        Check.yes("told", x.weather(3999, 0, 0, 0));
        Check.is("ahead of all", 0, x.weatherOf(4, 0));
        Check.is("of the day", 9, x.weatherOf(5, 0));
        Check.is("of the day ahead", 9, x.weatherOf(9, 1));
        Check.is("of the day", 1, x.weatherOf(10, 0));
        Check.is("of the day ahead", 4, x.weatherOf(3998, 2));
        Check.is("of the last day", 0, x.weatherOf(3999, 2));
        Check.yes("told anew", x.weather(10, 3, 3, 3));
        Check.is("the last told", 3, x.weatherOf(10, 0));
        Check.no("day", x.weather(4000, 1, 1, 1));
        Check.no("day", x.weather(-1, 1, 1, 1));
        Check.no("snow", x.weather(10, 10, 1, 1));
        Check.no("snow", x.weather(10, -1, 1, 1));
        Check.no("water", x.weather(10, 1, 10, 1));
        Check.no("dry", x.weather(10, 1, 1, -1));
        Check.no("dry", x.weather(10, 1, 1, 10));
        Check.no("water", x.weather(10, 1, -1, 1));
        Check.is("day", -1, x.weatherOf(-1, 0));
        Check.is("day", -1, x.weatherOf(4000, 0));
        Check.is("what", -1, x.weatherOf(0, 3));
        Check.is("what", -1, x.weatherOf(0, -1));
        Check.days(x, 6);
        Check.no("gone", x.weather(5, 1, 1, 1));
        Check.yes("at hand", x.weather(6, 7, 7, 7));
        Check.is("gone days stay", 9, x.weatherOf(5, 0));
        Check.is("at hand", 7, x.weatherOf(6, 0));
    }

    private static void manyTellings() {
        TimberValley x = new TimberValley();
        for (int i = 0; i < 200; i++) {
            Check.yes("telling " + i, x.weather(i, i % 10, 1, 1));
        }
        Check.no("200 were told", x.weather(300, 1, 1, 1));
        Check.is("the last", 9, x.weatherOf(400, 0));
    }

    private static void everyCellGrows() {
        TimberValley x = new TimberValley();
        x.crew(0);
        for (int cell = 0; cell < 64; cell++) {
            x.stand(cell, cell % 4, 0, 100);
        }
        for (int i = 0; i < 4; i++) {
            x.stand(63, 1, 1, 1);
            x.fall(0, 63, 1, 1, 2);
        }
        Check.days(x, 100);
        for (int cell = 0; cell < 64; cell++) {
            Check.is("a fifth of every sort", 80, x.of(cell, 5 + 4 * (cell % 4)));
            Check.is("a fifth of every sort", 20, x.of(cell, 6 + 4 * (cell % 4)));
        }
        Check.is("half of 12", 6, x.of(63, 1));
    }

    private static void years() {
        TimberValley x = new TimberValley();
        x.sort(1, 50, 1);
        x.stand(3, 0, 0, 99);
        x.stand(3, 0, 1, 11);
        x.stand(3, 0, 2, 4);
        x.stand(3, 1, 2, 100);
        x.stand(3, 1, 3, 190);
        x.stand(3, 1, 1, 200);
        x.stand(3, 1, 0, 200);
        x.stand(3, 2, 0, 10);
        x.crew(0);
        x.fall(0, 3, 2, 0, 0);
        Check.is("slash", 3, x.of(3, 1));
        Check.days(x, 99);
        Check.is("ahead of the end", 99, x.of(3, 5));
        Check.is("slash", 3, x.of(3, 1));
        x.day();
        Check.is("day", 100, x.count(0));
        Check.is("class 2: none of 4 goes", 4 + 2, x.of(3, 7));
        Check.is("class 1: 2 go, 19 come", 11 - 2 + 19, x.of(3, 6));
        Check.is("class 0: 19 go", 80, x.of(3, 5));
        Check.is("class 3", 0, x.of(3, 8));
        Check.is("not above 200", 200, x.of(3, 12));
        Check.is("10 went, 100 came", 100 - 10 + 100, x.of(3, 11));
        Check.is("100 went, 100 came", 200, x.of(3, 10));
        Check.is("100 went", 100, x.of(3, 9));
        Check.is("half the slash", 1, x.of(3, 1));
        everyCellGrows();
        Check.is("none is lost", 99 + 11 + 4 + 100 + 190 + 200 + 200 + 9, x.of(3, 4));
    }
}
