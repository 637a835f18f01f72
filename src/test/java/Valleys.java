/** Valleys that tests begin with. */
final class Valleys {
    private Valleys() {
    }

    static void empty(TimberValley x) {
        // nothing is told
    }

    /** Something of everything, in less than 200 calls; the DAY at hand is 6. */
    static void rich(TimberValley x) {
        land(x);
        x.crew(1);
        x.crew(2);
        x.crew(3);
        x.crew(4);
        ways(x);
        Check.law(x, 0, "bar carry if way=3;pay 3 if sort=1 and cell=10;credit 70 if crew=1;rent 4 if crew=0;"
                + "bar cut if cell=0 and class=0;bar fire if cell=63;");
        x.fall(0, 10, 0, 3, 2);
        x.fall(0, 10, 0, 3, 0);
        x.fall(1, 10, 1, 1, 0);
        x.fall(2, 20, 3, 3, 2);
        x.fall(2, 9, 0, 0, 2);
        x.fall(2, 27, 3, 3, 2);
        x.fall(2, 63, 1, 3, 3);
        x.shop(0, 8);
        x.shop(1, 60);
        x.shop(3, 9);
        x.leave(3);
        x.weather(1, 0, 9, 2);
        x.weather(3, 4, 6, 5);
        x.weather(50, 9, 0, 9);
        Check.days(x, 4);
        x.fire(63, 0, 1);
        x.fall(1, 11, 2, 2, 0);
        mill(x);
        Check.days(x, 2);
        x.dam(4);
        plans(x);
        rows(x);
        x.alter(0, 3, 5);
        x.alter(2, 0, 1);
        x.alter(2, 4, 2);
        Check.law(x, 9, "rent 8 if day>0;");
        Check.tape(x, "pay 7 if crew=1;");
    }

    private static void land(TimberValley x) {
        x.mill(9);
        x.cell(10, 5);
        x.cell(11, 8);
        x.cell(20, 12);
        x.cell(12, 3);
        x.cell(63, 40);
        x.sort(1, 50, 2);
        x.sort(2, 0, 3);
        x.price(3, 14);
        x.price(6, 0);
        x.stand(10, 0, 3, 30);
        x.stand(10, 1, 1, 9);
        x.stand(10, 0, 1, 50);
        x.stand(11, 2, 2, 200);
        x.stand(20, 3, 3, 41);
        x.stand(20, 3, 0, 7);
        x.stand(9, 0, 0, 2);
        x.cell(27, 6);
        x.stand(27, 3, 3, 5);
        x.stand(63, 1, 2, 100);
        x.stand(63, 1, 3, 199);
    }

    private static void ways(TimberValley x) {
        x.iron(37);
        x.way(0, 11, 10);
        x.way(0, 10, 9);
        x.way(1, 20, 12);
        x.way(1, 12, 11);
        x.way(4, 20, 21);
        x.way(2, 11, 3);
        x.way(3, 10, 2);
        x.way(4, 10, 18);
        x.way(4, 27, 26);
        x.lay(2, true);
    }

    private static void mill(TimberValley x) {
        x.order(3, 2, 2, 9, 4);
        x.order(2, 2, 60, 4, 30);
        x.order(4, 6, 1, 40, 30);
        x.saw(0);
        x.found(0, 0, 60);
        x.found(0, 1, 20);
        x.found(4, 2, 0);
        x.lease(1);
    }

    private static void plans(TimberValley x) {
        x.spur(3, 20, 10);
        x.spur(4, 10, 5);
        x.spur(1 << 30 | 8, 8, 1);
        x.asked(0, 7);
        x.asked(1, 3);
        x.asked(3, 1 << 30 | 4);
        x.forty(1, 2, 3, 4, 0, 30, 2);
    }

    private static void rows(TimberValley x) {
        x.row(0, false, 4);
        x.write(0, 0, 5);
        x.write(0, 1, -32768);
        x.write(0, 2, 8);
        x.row(1, true, 6);
        x.write(1, 1, 9);
        x.write(1, 2, -32768);
        x.write(1, 3, -4);
        x.row(3, false, 0);
    }
}
