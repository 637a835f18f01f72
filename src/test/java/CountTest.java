/** Promise 56: counts. */
public final class CountTest {
    public static void main(String[] args) {
        TimberValley x = new TimberValley();
        x.mill(1);
        x.crew(4);
        x.crew(4);
        x.stand(1, 0, 1, 7);
        x.stand(2, 3, 3, 8);
        x.stand(2, 0, 0, 9);
        x.iron(35);
        x.way(1, 2, 3);
        x.way(1, 3, 4);
        x.way(0, 3, 4);
        x.lay(0, true);
        x.lay(1, true);
        Check.law(x, 0, "pay 1 if day=0;");
        x.feed(0, 0, 0, 0, 0);
        x.order(1, 2, 1, 1, 9);
        x.spur(1, 1, 1);
        x.spur(1, 1, 1);
        x.fall(0, 1, 0, 1, 222);
        x.fall(0, 2, 0, 0, 2);
        x.found(0, 0, 1);
        x.day();
        x.saw(0);
        int earned = x.crewOf(0, 1);
        x.leave(0);
        x.fire(2, 0, 1);
        Check.is("day", 1, x.count(0));
        Check.is("logs", 4, x.count(1));
        Check.is("ways", 3, x.count(2));
        Check.is("stored", 15, x.count(3));
        Check.is("laid", 20, x.count(4));
        Check.is("texts", 1, x.count(5));
        Check.is("crews", 2, x.count(6));
        Check.is("orders", 1, x.count(7));
        Check.is("15 wide: eight boards, one is ordered", 7, x.count(8));
        Check.is("tape", 20, x.count(9));
        Check.is("doubles", 1, x.count(10));
        Check.is("spurs", 2, x.count(11));
        Check.is("wages", earned, x.count(12));
        Check.is("stems", 6 + 4, x.count(13));
        Check.is("none", -1, x.count(14));
        Check.is("none", -1, x.count(19));
        Check.is("lying", 0, x.count(20));
        Check.is("pond", 2, x.count(21));
        Check.is("sawn", 1, x.count(22));
        Check.is("burnt", 1, x.count(23));
        Check.is("sunk", 0, x.count(24));
        Check.is("none", -1, x.count(25));
        Check.is("none", -1, x.count(-1));
        Check.end();
    }
}
