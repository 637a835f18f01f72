/** Promises 26 to 28, 54 and the month's end: crews, shops and rents. */
public final class CrewTest {
    public static void main(String[] args) {
        numbers();
        shop();
        months();
        leave();
        Check.end();
    }

    private static void numbers() {
        TimberValley x = new TimberValley();
        Check.is("brand", -1, x.crew(-1));
        Check.is("brand", -1, x.crew(10));
        for (int i = 0; i < 20; i++) {
            Check.is("crew", i, x.crew(i % 10));
        }
        Check.is("20 came", -1, x.crew(0));
        Check.is("crews", 20, x.count(6));
        for (int i = 0; i < 20; i++) {
            Check.is("brand", i % 10, x.crewOf(i, 0));
            for (int what = 1; what <= 4; what++) {
                Check.is("new", 0, x.crewOf(i, what));
            }
        }
        Check.is("what", -1, x.crewOf(0, 5));
        Check.is("what", -1, x.crewOf(0, -1));
        Check.is("crew", -1, x.crewOf(20, 0));
        Check.is("crew", -1, x.crewOf(-1, 0));
        x.leave(3);
        Check.is("none comes for it", -1, x.crew(0));
    }

    private static void shop() {
        TimberValley x = new TimberValley();
        x.crew(0);
        Check.is("shop", 30, x.shop(0, 30));
        Check.is("above", -2, x.shop(0, 21));
        Check.is("above", -2, x.shop(0, 999));
        Check.is("v", -1, x.shop(0, 1000));
        Check.is("v", -1, x.shop(0, 0));
        Check.is("v", -1, x.shop(0, -5));
        Check.is("crew", -1, x.shop(1, 1));
        Check.is("crew", -1, x.shop(-1, 1));
        Check.is("just so much", 50, x.shop(0, 20));
        Check.is("owes", 50, x.crewOf(0, 2));
        Check.is("law", 1, Check.law(x, 0, "credit 9999 if crew=0;"));
        Check.is("shop", 1049, x.shop(0, 999));
    }

    private static void months() {
        TimberValley x = new TimberValley();
        x.crew(1);
        x.crew(2);
        x.crew(3);
        x.stand(5, 0, 3, 9);
        Check.is("law", 1, Check.law(x, 24, "rent 11 if day=24 and crew=1;"));
        Check.is("law", 1, Check.law(x, 25, "rent 13 if crew<2;"));
        x.fall(0, 5, 0, 3, 2);
        int earned = x.crewOf(0, 1);
        Check.is("29 wide: 25 by 25 by 2 by 16 is 78", 156, earned);
        x.shop(0, 40);
        x.shop(2, 7);
        Check.days(x, 24);
        Check.is("not yet", earned, x.crewOf(0, 1));
        Check.is("not yet", 40, x.crewOf(0, 2));
        x.day();
        Check.is("earned", 0, x.crewOf(0, 1));
        Check.is("owes", 0, x.crewOf(0, 2));
        Check.is("paid", 156 - 45, x.crewOf(0, 3));
        Check.is("by the law of the last day", 11, x.crewOf(1, 2));
        Check.is("owes", 12, x.crewOf(2, 2));
        Check.is("wages", 111, x.count(12));
        x.fall(2, 5, 0, 3, 6);
        int more = x.crewOf(2, 1);
        x.fall(1, 5, 0, 3, 6);
        x.lease(1);
        Check.days(x, 25);
        Check.is("owes", 13, x.crewOf(0, 2));
        Check.is("what was earned pays both", more - 11 - 13, x.crewOf(1, 3));
        Check.is("what was earned pays both", more - 12 - 5, x.crewOf(2, 3));
        Check.is("owes", 0, x.crewOf(2, 2));
        Check.is("wages", 111 + 2 * more - 41, x.count(12));
    }

    private static void leave() {
        TimberValley x = new TimberValley();
        x.crew(1);
        x.crew(2);
        x.crew(3);
        x.stand(5, 0, 3, 9);
        x.fall(0, 5, 0, 3, 2);
        x.shop(0, 6);
        Check.is("gets", 150, x.leave(0));
        Check.is("earned", 0, x.crewOf(0, 1));
        Check.is("owes", 0, x.crewOf(0, 2));
        Check.is("what it got is paid", 150, x.crewOf(0, 3));
        Check.is("left", 1, x.crewOf(0, 4));
        Check.is("wages", 150, x.count(12));
        x.shop(1, 33);
        Check.is("owes", -33, x.leave(1));
        Check.is("owes", 33, x.crewOf(1, 2));
        Check.is("paid", 0, x.crewOf(1, 3));
        Check.is("again", -1000000, x.leave(1));
        Check.is("again", -1000000, x.leave(0));
        Check.is("crew", -1000000, x.leave(3));
        Check.is("crew", -1000000, x.leave(-1));
        Check.is("shop", -1, x.shop(0, 1));
        Check.is("brand", 1, x.crewOf(0, 0));
        Check.is("crews", 3, x.count(6));
        Check.days(x, 25);
        Check.is("no rent of one that has left", 33, x.crewOf(1, 2));
        Check.is("no rent of one that has left", 0, x.crewOf(0, 2));
        Check.is("rent", 5, x.crewOf(2, 2));
        Check.is("owes just that", -5, x.leave(2));
        Check.is("nothing either way", 0, new TimberValley().count(12));
    }
}
