/** Promises 13 to 18: ways, iron, dams, what they carry, and days that go by. */
public final class CarryTest {
    public static void main(String[] args) {
        wayNumbers();
        ironStore();
        rails();
        skidsAndRoads();
        flumesAndStreams();
        dams();
        room();
        wayByWay();
        sunk();
        pondAtOnce();
        barred();
        lastDay();
        Check.end();
    }

    private static void wayNumbers() {
        TimberValley x = new TimberValley();
        Check.is("row's end", -1, x.way(0, 7, 8));
        Check.is("itself", -1, x.way(0, 7, 7));
        Check.is("aslant", -1, x.way(0, 0, 9));
        Check.is("two off", -1, x.way(0, 0, 2));
        Check.is("cell", -1, x.way(0, 64, 63));
        Check.is("cell", -1, x.way(0, 0, -1));
        Check.is("cell", -1, x.way(0, 56, 64));
        Check.is("kind", -1, x.way(5, 0, 1));
        Check.is("kind", -1, x.way(-1, 0, 1));
        for (int i = 0; i < 40; i++) {
            Check.is("way", i, x.way(i % 5, 8 + i % 2, 9 - i % 2));
        }
        Check.is("40 are there", -1, x.way(0, 0, 1));
        Check.is("ways", 40, x.count(2));
        Check.is("carry", -1, x.carry(40));
        Check.is("carry", -1, x.carry(-1));
    }

    private static void ironStore() {
        TimberValley x = new TimberValley();
        Check.is("n", -1, x.iron(-1));
        Check.is("n", -1, x.iron(501));
        for (int i = 1; i <= 9; i++) {
            Check.is("iron", 500 * i, x.iron(500));
        }
        Check.is("iron", 4999, x.iron(499));
        Check.is("more", -1, x.iron(2));
        Check.is("iron", 5000, x.iron(1));
        Check.is("iron", 5000, x.iron(0));
        Check.is("more", -1, x.iron(1));
        Check.is("stored", 5000, x.count(3));
    }

    private static void rails() {
        TimberValley x = new TimberValley();
        x.way(1, 0, 1);
        x.way(1, 1, 2);
        x.way(0, 1, 2);
        x.iron(19);
        Check.is("not laid", 0, x.carry(0));
        Check.no("it is so", x.lay(0, false));
        Check.yes("lay", x.lay(0, true));
        Check.no("it is so", x.lay(0, true));
        Check.no("iron", x.lay(1, true));
        Check.no("no rail", x.lay(2, true));
        Check.no("no way", x.lay(3, true));
        Check.no("no way", x.lay(-1, false));
        Check.is("carry", 60, x.carry(0));
        Check.is("stored", 9, x.count(3));
        Check.is("laid", 10, x.count(4));
        Check.is("iron", 10, x.iron(1));
        Check.yes("lay", x.lay(1, true));
        Check.is("laid", 20, x.count(4));
        Check.yes("lift", x.lay(0, false));
        Check.is("carry", 0, x.carry(0));
        Check.is("stored", 10, x.count(3));
        Check.is("laid", 10, x.count(4));
    }

    private static void skidsAndRoads() {
        TimberValley x = new TimberValley();
        x.cell(0, 5);
        x.cell(1, 8);
        x.cell(2, 40);
        x.way(0, 0, 1);
        x.way(0, 1, 0);
        x.way(0, 0, 8);
        x.way(3, 0, 1);
        x.way(0, 1, 2);
        Check.is("climbs 3", 21, x.carry(0));
        Check.is("falls", 30, x.carry(1));
        Check.is("road without snow", 0, x.carry(3));
        Check.is("too steep", 0, x.carry(4));
        x.weather(0, 2, 5, 3);
        Check.is("snow", 19, x.carry(0));
        Check.is("road", 0, x.carry(3));
        x.weather(0, 3, 5, 3);
        Check.is("road", 40, x.carry(3));
        x.weather(0, 6, 5, 3);
        Check.is("snow", 24, x.carry(2));
        x.weather(0, 7, 5, 3);
        Check.is("snow above 6", 0, x.carry(2));
        Check.is("road", 40, x.carry(3));
    }

    private static void flumesAndStreams() {
        TimberValley x = new TimberValley();
        x.cell(0, 5);
        x.way(2, 0, 1);
        x.way(2, 1, 0);
        x.way(2, 1, 2);
        x.way(4, 0, 1);
        x.way(4, 1, 0);
        x.way(4, 1, 2);
        Check.is("flume", 40, x.carry(0));
        Check.is("it climbs", 0, x.carry(1));
        Check.is("it is level", 0, x.carry(2));
        Check.is("stream in winter", 15, x.carry(3));
        Check.is("it climbs", 0, x.carry(4));
        Check.is("it is level", 0, x.carry(5));
        x.weather(0, 0, 9, 0);
        Check.is("flume", 72, x.carry(0));
        Check.is("stream", 27, x.carry(3));
        Check.days(x, 24);
        Check.is("day 24", 27, x.carry(3));
        x.day();
        Check.is("spring", 108, x.carry(3));
        Check.days(x, 24);
        Check.is("day 49", 108, x.carry(3));
        x.day();
        Check.is("summer", 27, x.carry(3));
    }

    private static void dams() {
        TimberValley x = new TimberValley();
        x.cell(0, 5);
        x.way(4, 0, 1);
        x.way(4, 1, 2);
        x.way(2, 0, 1);
        Check.yes("dam", x.dam(0));
        Check.no("already", x.dam(0));
        Check.is("carry", 55, x.carry(0));
        Check.yes("level", x.dam(1));
        Check.is("level", 0, x.carry(1));
        Check.no("no stream", x.dam(2));
        Check.no("no way", x.dam(3));
        Check.no("no way", x.dam(-1));
        x.day();
        Check.is("on that day alone", 15, x.carry(0));
        Check.yes("another day", x.dam(0));
        Check.is("carry", 55, x.carry(0));
    }

    private static void room() {
        TimberValley x = new TimberValley();
        x.crew(0);
        x.stand(2, 3, 3, 20);
        x.stand(2, 0, 0, 20);
        x.way(0, 2, 1);
        // volumes: 4 units 30 wide: 16; 6 units 24 wide: 19; 2 units 8 wide: 3; 4 units 6 wide: 4
        Check.is("fall", 2, x.fall(0, 2, 3, 3, 46));
        Check.is("fall", 1, x.fall(0, 2, 0, 0, 4));
        Check.is("fall", 2, x.fall(0, 2, 3, 3, 46));
        for (int i = 0; i < 4; i++) {
            Check.is("fall", 1, x.fall(0, 2, 0, 0, 2));
        }
        int[] volumes = {16, 19, 4, 16, 19, 3, 3, 3, 3};
        for (int i = 0; i < 9; i++) {
            Check.is("volume", volumes[i], x.log(i, 7));
        }
        Check.is("they came today", 0, x.day());
        Check.is("30: 16 and 4 and 3, 3, 3, just 29; the 4th is above", 5, x.day());
        int[] now = {1, 2, 1, 2, 2, 1, 1, 1, 2};
        for (int i = 0; i < 9; i++) {
            Check.is("log " + i, now[i], x.log(i, 0));
        }
        Check.is("lying", 5, x.of(1, 2));
        Check.is("lying", 4, x.of(2, 2));
        Check.is("19 and 3", 2, x.day());
        x.weather(4, 6, 0, 0);
        x.weather(3, 6, 0, 0);
        x.cell(1, 2);
        Check.is("carry", 18, x.carry(0));
        Check.is("16 fits, 19 doesn't", 1, x.day());
        Check.is("none fits", 0, x.day());
        x.cell(1, 1);
        x.weather(5, 8, 0, 0);
        Check.is("too much snow", 0, x.day());
        x.weather(6, 8, 0, 0);
        x.cell(1, 0);
        x.weather(6, 0, 0, 0);
        Check.is("the last", 1, x.day());
        Check.is("all lie there", 9, x.of(1, 2));
        justFull();
    }

    private static void justFull() {
        TimberValley x = new TimberValley();
        x.crew(0);
        x.cell(3, 4);
        x.stand(2, 3, 3, 2);
        x.fall(0, 2, 3, 3, 4);
        x.fall(0, 2, 3, 3, 2);
        Check.is("volume", 16, x.log(0, 7));
        Check.is("volume", 9, x.log(1, 7));
        x.way(0, 2, 3);
        x.weather(0, 2, 0, 0);
        Check.is("carry", 16, x.carry(0));
        x.day();
        Check.is("not above", 1, x.day());
        Check.is("just full", 3, x.log(0, 0));
        x.cell(3, 0);
        x.weather(2, 5, 0, 0);
        Check.is("the other one", 1, x.day());
    }

    private static void wayByWay() {
        TimberValley x = new TimberValley();
        x.crew(0);
        x.mill(4);
        x.stand(1, 3, 3, 20);
        x.way(0, 1, 2);
        x.way(0, 2, 3);
        x.way(0, 1, 0);
        x.way(0, 3, 4);
        x.fall(0, 1, 3, 3, 46);
        x.fall(0, 1, 3, 3, 46);
        x.day();
        Check.is("way 0 takes log 0, way 2 takes log 1", 2, x.day());
        Check.is("log 0", 2, x.log(0, 0));
        Check.is("log 1", 0, x.log(1, 0));
        Check.is("log 2 stays", 1, x.log(2, 0));
        Check.is("log 3 stays", 1, x.log(3, 0));
        Check.is("log 0 goes on, 2 and 3 go", 3, x.day());
        Check.is("log 0", 3, x.log(0, 0));
        Check.is("log 2", 2, x.log(2, 0));
        Check.is("log 3", 0, x.log(3, 0));
        Check.is("log 0 to the mill, 2 goes on", 2, x.day());
        Check.is("log 0", 4, x.log(0, 0));
        Check.is("in the pond", 1, x.log(0, 6));
        Check.is("in the pond", 1, x.count(21));
        Check.is("none lies there", 0, x.of(4, 2));
        Check.is("the day it fell", 0, x.log(0, 4));
    }

    private static void sunk() {
        TimberValley x = new TimberValley();
        x.crew(0);
        x.mill(0);
        x.cell(2, 9);
        x.cell(1, 5);
        x.stand(2, 3, 3, 9);
        x.stand(1, 3, 3, 9);
        x.way(4, 2, 1);
        x.way(4, 1, 0);
        x.fall(0, 2, 3, 3, 22);
        x.fall(0, 1, 3, 3, 22);
        Check.is("wide", 32, x.log(0, 3));
        Check.is("wide", 30, x.log(1, 3));
        x.day();
        x.weather(1, 0, 9, 0);
        Check.is("carried, the sunk ones too", 4, x.day());
        Check.is("sunk", 4, x.log(0, 6));
        Check.is("30 wide is not sunk", 0, x.log(1, 6));
        Check.is("sunk ahead of the pond", 4, x.log(2, 6));
        Check.is("in the pond", 1, x.log(3, 6));
        Check.is("sunk", 2, x.count(24));
        Check.is("it doesn't lie there", 1, x.of(1, 2));
        x.weather(2, 0, 8, 0);
        x.fall(0, 2, 3, 3, 2);
        x.day();
        x.weather(3, 0, 8, 0);
        Check.is("carried", 1, x.day());
        Check.is("water 8: not sunk", 0, x.log(4, 6));
        Check.is("no more sunk", 2, x.count(24));
        x.stand(2, 2, 3, 1);
        x.fall(0, 2, 2, 3, 2);
        x.day();
        x.weather(5, 0, 9, 0);
        x.day();
        Check.is("wide", 31, x.log(5, 3));
        Check.is("31 wide is sunk", 4, x.log(5, 6));
        Check.is("its cell", 1, x.log(5, 0));
    }

    private static void pondAtOnce() {
        TimberValley x = new TimberValley();
        x.crew(0);
        x.mill(9);
        x.stand(9, 0, 0, 3);
        x.way(0, 9, 8);
        x.fall(0, 9, 0, 0, 22);
        Check.is("lies", 0, x.log(0, 6));
        Check.is("lies", 2, x.of(9, 2));
        Check.is("not carried", 0, x.day());
        Check.is("in the pond", 1, x.log(0, 6));
        Check.is("in the pond", 1, x.log(1, 6));
        Check.is("none lies", 0, x.of(9, 2));
        Check.is("what is in the pond stays", 0, x.day());
        Check.is("cell", 9, x.log(0, 0));
    }

    private static void barred() {
        TimberValley x = new TimberValley();
        x.crew(0);
        x.stand(9, 0, 0, 3);
        x.way(0, 9, 8);
        x.fall(0, 9, 0, 0, 4);
        Check.is("law", 1, Check.law(x, 1, "bar carry if way=0 and slash=3 and cell=9;"));
        Check.is("not yet", 30, x.carry(0));
        x.day();
        Check.is("barred", 0, x.carry(0));
        Check.is("barred", 0, x.day());
        Check.is("law", 0, Check.law(x, 2, ""));
        Check.is("free", 30, x.carry(0));
        Check.is("free", 1, x.day());
    }

    private static void lastDay() {
        TimberValley x = new TimberValley();
        for (int i = 0; i < 3999; i++) {
            x.day();
        }
        Check.is("day", 3999, x.count(0));
        Check.is("no more", -1, x.day());
        Check.is("day", 3999, x.count(0));
    }
}
