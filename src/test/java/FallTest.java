/** Promises 12, 30 and 53: stems fall and are logs. */
public final class FallTest {
    public static void main(String[] args) {
        logs();
        refusals();
        payAheadOfTheCut();
        manyLogs();
        Check.end();
    }

    private static void logs() {
        TimberValley x = new TimberValley();
        x.mill(0);
        Check.is("crew", 0, x.crew(8));
        x.stand(10, 3, 3, 2);
        Check.days(x, 3);
        Check.is("fall", 3, x.fall(0, 10, 3, 3, 262));
        int[] units = {2, 6, 2};
        int[] wide = {32, 26, 24};
        int scales = 0;
        for (int i = 0; i < 3; i++) {
            Check.is("cell", 10, x.log(i, 0));
            Check.is("sort", 3, x.log(i, 1));
            Check.is("units", units[i], x.log(i, 2));
            Check.is("wide", wide[i], x.log(i, 3));
            Check.is("day", 3, x.log(i, 4));
            Check.is("brand", 8, x.log(i, 5));
            Check.is("lies", 0, x.log(i, 6));
            Check.is("volume", units[i] * wide[i] / 8 + 1, x.log(i, 7));
            int hidden = (7 * i + 10) % (wide[i] + 3);
            Check.is("fault", hidden < wide[i] ? hidden : -1, x.log(i, 8));
            int scale0 = (wide[i] - 4) * (wide[i] - 4) * units[i] / 16;
            Check.is("scale by 0", scale0, x.scale(i, 0));
            Check.is("scale by 1", wide[i] * wide[i] * units[i] / 24, x.scale(i, 1));
            scales += scale0;
        }
        Check.is("earned", 2 * scales, x.crewOf(0, 1));
        Check.is("stems", 1, x.of(10, 4));
        Check.is("slash", 3, x.of(10, 1));
        Check.is("lying", 3, x.of(10, 2));
        Check.is("logs", 3, x.count(1));
        Check.is("lying", 3, x.count(20));
        Check.is("what", -1, x.log(0, 9));
        Check.is("what", -1, x.log(0, -1));
        Check.is("log", -1, x.log(3, 0));
        Check.is("log", -1, x.log(-1, 0));
        Check.is("log", -1, x.scale(3, 0));
        Check.is("rule", -1, x.scale(0, 2));
        Check.is("rule", -1, x.scale(0, -1));
        narrowLogs();
        hiddenNowhere();
    }

    private static void narrowLogs() {
        TimberValley x = new TimberValley();
        x.sort(0, 20, 3);
        x.stand(0, 0, 0, 1);
        x.crew(0);
        Check.is("fall", 2, x.fall(0, 0, 0, 0, 22));
        Check.is("wide", 4, x.log(0, 3));
        Check.is("less 4, 0 at least", 0, x.scale(0, 0));
        Check.is("wide", 1, x.log(1, 3));
        Check.is("less 4, 0 at least", 0, x.scale(1, 0));
        Check.is("scale by 1", 0, x.scale(1, 1));
        Check.is("volume", 1, x.log(1, 7));
        Check.is("earned", 0, x.crewOf(0, 1));
        Check.is("7 by 4 leaves 3: no fault", -1, x.log(1, 8));
    }

    private static void hiddenNowhere() {
        TimberValley x = new TimberValley();
        x.stand(8, 0, 0, 3);
        x.crew(0);
        Check.is("fall", 1, x.fall(0, 8, 0, 0, 2));
        Check.is("8 by 11 leaves 8: no fault", -1, x.log(0, 8));
        x.way(0, 8, 0);
        Check.days(x, 2);
        Check.is("it is at the mill", 1, x.log(0, 6));
        Check.is("its cell now", 0, x.log(0, 0));
        Check.is("what is hidden stays as it came", -1, x.log(0, 8));
    }

    private static void refusals() {
        TimberValley x = new TimberValley();
        x.crew(0);
        x.crew(1);
        x.stand(5, 1, 1, 1);
        Check.is("crew", -1, x.fall(2, 5, 1, 1, 0));
        Check.is("crew", -1, x.fall(-1, 5, 1, 1, 0));
        Check.is("cell", -1, x.fall(0, 64, 1, 1, 0));
        Check.is("cell", -1, x.fall(0, -1, 1, 1, 0));
        Check.is("sort", -1, x.fall(0, 5, 4, 1, 0));
        Check.is("class", -1, x.fall(0, 5, 1, 4, 0));
        Check.is("law", 1, Check.law(x, 0, "bar cut if crew=0;"));
        Check.is("no stem comes first", -2, x.fall(0, 5, 1, 2, 99));
        Check.is("the bar comes ahead of the row", -3, x.fall(0, 5, 1, 1, 99));
        Check.is("the row", -4, x.fall(1, 5, 1, 1, 99));
        Check.is("the row", -4, x.fall(1, 5, 1, 1, -2));
        Check.is("the row is longer", -4, x.fall(1, 5, 1, 1, 66));
        x.leave(1);
        Check.is("it has left", -1, x.fall(1, 5, 1, 1, 0));
        Check.is("nothing fell", 1, x.of(5, 4));
        Check.is("nothing fell", 0, x.of(5, 1));
        Check.is("nothing fell", 0, x.count(1));
    }

    private static void payAheadOfTheCut() {
        TimberValley x = new TimberValley();
        x.cell(5, 4);
        x.crew(0);
        x.stand(5, 1, 2, 9);
        Check.is("law", 2, Check.law(x, 0,
                "pay 100 if slash=0 and cell=5 and height=4 and sort=1 and class=2;"
                        + "pay 1 if slash>0 and far=5;"));
        Check.is("fall", 1, x.fall(0, 5, 1, 2, 2));
        int scale = x.scale(0, 0);
        Check.is("pay as it was ahead", 100 * scale, x.crewOf(0, 1));
        Check.is("fall", 1, x.fall(0, 5, 1, 2, 2));
        Check.is("then the last that holds", 101 * scale, x.crewOf(0, 1));
        Check.is("lease", 1, x.lease(1) ? 1 : 0);
        x.fall(0, 5, 1, 2, 2);
        Check.is("by the rule of the lease", 101 * scale + x.scale(2, 1), x.crewOf(0, 1));
    }

    private static void manyLogs() {
        TimberValley x = new TimberValley();
        x.crew(0);
        x.stand(1, 0, 3, 100);
        for (int i = 0; i < 59; i++) {
            Check.is("fall", 5, x.fall(0, 1, 0, 3, 22222));
        }
        Check.is("fall", 3, x.fall(0, 1, 0, 3, 222));
        Check.is("298", 298, x.count(1));
        Check.is("it would be 303", -5, x.fall(0, 1, 0, 3, 22222));
        Check.is("it would be 301", -5, x.fall(0, 1, 0, 3, 222));
        Check.is("the row is asked first", -4, x.fall(0, 1, 0, 3, 222222));
        Check.is("300", 2, x.fall(0, 1, 0, 3, 22));
        Check.is("no more", -5, x.fall(0, 1, 0, 3, 2));
        Check.is("300", 300, x.count(1));
        Check.is("stems", 100 - 61, x.of(1, 4));
        Check.is("slash", 61 * 3, x.of(1, 1));
    }
}
