/** Promises 29, 31 and 32: the lease and the scalers' hands. */
public final class ScaleTest {
    public static void main(String[] args) {
        TimberValley x = new TimberValley();
        Check.no("rule", x.lease(2));
        Check.no("rule", x.lease(-1));
        Check.yes("rule", x.lease(0));
        x.crew(0);
        x.stand(3, 2, 2, 9);
        Check.no("no log", x.found(0, 0, 5));
        x.fall(0, 3, 2, 2, 222);
        Check.no("scaler", x.found(5, 0, 5));
        Check.no("scaler", x.found(-1, 0, 5));
        Check.no("log", x.found(0, 3, 5));
        Check.no("log", x.found(0, -1, 5));
        Check.no("v", x.found(0, 0, 1000));
        Check.no("v", x.found(0, 0, -1));
        Check.none("no double", () -> x.hand(0, 0));
        Check.is("doubles", 0, x.count(10));
        // wide 24, 22, 20: by rule 0 50, 40, 32; by rule 1 48, 40, 33
        Check.is("scale", 50, x.scale(0, 0));
        Check.is("scale", 40, x.scale(1, 0));
        Check.is("scale", 32, x.scale(2, 0));
        Check.yes("found", x.found(4, 0, 49));
        Check.yes("found", x.found(4, 1, 40));
        Check.yes("found", x.found(3, 1, 999));
        Check.yes("found", x.found(4, 2, 31));
        Check.is("-2 by 3 rounded down", -1, x.hand(4, 0));
        Check.is("doubt", 1, x.hand(4, 1));
        Check.is("hand", 959, x.hand(3, 0));
        Check.is("doubt of one", 0, x.hand(3, 1));
        Check.yes("lease", x.lease(1));
        Check.is("1 and 0 and -2: -1 by 3 rounded down", -1, x.hand(4, 0));
        Check.is("doubt", 3, x.hand(4, 1));
        Check.yes("found", x.found(4, 2, 0));
        Check.is("-34 by 4 rounded down", -9, x.hand(4, 0));
        Check.is("doubt", 34, x.hand(4, 1));
        Check.none("no double of it", () -> x.hand(2, 0));
        Check.none("scaler", () -> x.hand(5, 0));
        Check.none("scaler", () -> x.hand(-1, 1));
        Check.none("what", () -> x.hand(4, 2));
        Check.none("what", () -> x.hand(4, -1));
        for (int i = 5; i < 60; i++) {
            Check.yes("found", x.found(0, 0, 0));
        }
        Check.is("doubles", 59 + 1, x.count(10));
        Check.no("60 are there", x.found(0, 0, 0));
        Check.is("hand", -48, x.hand(0, 0));
        Check.end();
    }
}
