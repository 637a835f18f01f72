/** The edges of part 1 and of promises 1 to 7 and 52: cells, stems, sorts, the mill, weather, years. */
public final class EdgeLandTest {
    private static final Edge.Run RICH = Valleys::rich;
    private static final int LOW = Integer.MIN_VALUE;
    private static final int HIGH = Integer.MAX_VALUE;

    public static void main(String[] args) {
        newObject();
        days();
        seasons();
        cells();
        sideBySide();
        heights();
        atFirst();
        stems();
        far();
        mill();
        weatherNumbers();
        weatherDays();
        weatherAhead();
        weatherFull();
        weatherOf();
        sorts();
        growRoundedDown();
        growOneClassAYear();
        growNotAbove();
        growOfASort();
        yearsEnd();
        halfTheSlash();
        of();
        Check.end();
    }

    private static void newObject() {
        Edge.says("No STEMS, WAYS, LOGS, LAW, CREWS; DAY 0; IRON 0; an empty TAPE.");
        TimberValley x = new TimberValley();
        for (int what = 0; what <= 13; what++) {
            Edge.is(x, 0, "count", what);
            Edge.is(x, what <= 4 ? 0 : -1, "count", 20 + what);
        }
        Edge.is(x, -1, "carry", 0);
        Edge.is(x, -2, "whyWay", 0);
        Edge.is(x, -1, "log", 0, 0);
        Edge.is(x, -1, "scale", 0, 0);
        Edge.is(x, -1, "crewOf", 0, 0);
        Edge.is(x, -1, "due", 0, 0);
        Edge.is(x, -2, "why", 0, 0, 0, 0);
        Edge.is(x, -1000000, "leave", 0);
        Edge.is(x, Edge.THROWS, "hand", 0, 0);
        Edge.is(x, -1, "best", 0);
        Edge.is(x, -1, "saw", 0);
        Edge.is(x, Edge.THROWS, "orderOf", 0, 0);
        Edge.is(x, 0, "rails", 999);
        Edge.is(x, -1, "cutIn", 0, 0);
        Edge.is(x, Edge.THROWS, "each", 0, 0);
        Edge.is(x, -1, "cruise", 0, 0);
        Edge.is(x, -2, "knew", 0, 0, 0);
        Edge.is(x, -3, "checked", 0, 0);
        Edge.is(x, -1, "place");
        Edge.is(x, -1, "end", 1);
        Edge.is(x, 0, "end", 0);
        Edge.is(x, 0, "law", 0);
        Check.is("one object's state is not another's", 0, new TimberValley().count(5));
    }

    private static void days() {
        Edge.says("DAYS are numbered from 0 to 3999");
        TimberValley x = new TimberValley();
        Edge.is(x, 5, "weatherOf", 0, 1);
        Edge.is(x, 5, "weatherOf", 3999, 1);
        Edge.is(x, -1, "weatherOf", -1, 1);
        Edge.is(x, -1, "weatherOf", 4000, 1);
        Edge.is(x, 0, "law", 0);
        Edge.is(x, 0, "law", 3999);
        Edge.is(x, -1, "law", -1);
        Edge.is(x, -1, "law", 4000);
        Edge.is(x, 0, "count", 0);
    }

    private static void seasons() {
        Edge.says("a YEAR is 100 of them, a SEASON 25: winter 0, spring 1, summer 2, autumn 3.");
        TimberValley x = new TimberValley();
        x.crew(0);
        Check.is("law", 4, Check.law(x, 0, "credit 10 if season=0;credit 11 if season=1;"
                + "credit 12 if season=2;credit 13 if season=3;"));
        for (int day = 0; day <= 226; day++) {
            Check.is("season of day " + day, 10 + day / 25 % 4, x.due(0, 1));
            x.day();
        }
    }

    private static void cells() {
        Edge.says("CELLS 0 to 63");
        for (int cell : new int[] {0, 63}) {
            TimberValley x = new TimberValley();
            Edge.is(x, 1, "mill", cell);
            Edge.is(x, 1, "cell", cell, 3);
            Edge.is(x, 1, "stand", cell, 0, 0, 2);
            Edge.is(x, 0, "crew", 0);
            Edge.is(x, -1, "why", 0, cell, 0, 0);
            Edge.is(x, 1, "fall", 0, cell, 0, 0, 4);
            Edge.is(x, 0, "burn", cell);
            Edge.is(x, 1, "fire", cell, 0, 1);
            Edge.is(x, 3, "of", cell, 0);
        }
        for (int cell : new int[] {-1, 64, LOW, HIGH}) {
            Edge.refuses(RICH, 0, "cell", cell, 3);
            Edge.refuses(RICH, 0, "stand", cell, 0, 0, 2);
            Edge.refuses(RICH, -2, "why", 0, cell, 0, 0);
            Edge.refuses(RICH, -1, "fall", 0, cell, 0, 3, 2);
            Edge.refuses(RICH, -1, "burn", cell);
            Edge.refuses(RICH, -1, "fire", cell, 0, 1);
            Edge.refuses(RICH, -1, "of", cell, 0);
            Edge.refuses(Valleys::empty, 0, "mill", cell);
        }
    }

    private static void sideBySide() {
        Edge.says("x is the rest by 8, y an eighth; side by side are those whose x, or y, is one more or less "
                + "(the other one alike).");
        for (int from = 0; from < 64; from++) {
            TimberValley x = new TimberValley();
            int ways = 0;
            for (int to = 0; to < 64; to++) {
                boolean beside = from % 8 == to % 8 && (from / 8 - to / 8 == 1 || to / 8 - from / 8 == 1)
                        || from / 8 == to / 8 && (from % 8 - to % 8 == 1 || to % 8 - from % 8 == 1);
                Check.is("way from " + from + " to " + to, beside ? ways : -1, x.way(0, from, to));
                ways += beside ? 1 : 0;
            }
        }
    }

    private static void heights() {
        Edge.says("HEIGHT (0 to 40; 0 at first)");
        Edge.says("HEIGHT of a CELL. False: no such one, another number.");
        TimberValley x = new TimberValley();
        for (int height : new int[] {40, 0, 1, 39}) {
            Edge.is(x, 1, "cell", 5, height);
            Edge.is(x, height, "of", 5, 0);
            Edge.is(x, 0, "of", 6, 0);
        }
        for (int height : new int[] {-1, 41, LOW, HIGH}) {
            Edge.refuses(RICH, 0, "cell", 10, height);
        }
        Edge.changes(RICH, 1, "cell", 10, 40);
        Edge.changes(RICH, 1, "cell", 10, 0);
    }

    private static void atFirst() {
        Edge.says("SLASH (0 at first) and STEMS of SORTS 0 to 3 and CLASSES 0 to 3 (0 to 200 each; 0 at first).");
        for (int cell = 0; cell < 64; cell++) {
            TimberValley x = new TimberValley();
            for (int what = 0; what <= 20; what++) {
                Edge.is(x, what == 3 ? cell % 8 + cell / 8 : 0, "of", cell, what);
            }
        }
    }

    private static void stems() {
        Edge.says("So many STEMS of a SORT and CLASS stand in a CELL. False: no such ones, another number.");
        for (int kind = 0; kind < 16; kind++) {
            TimberValley x = new TimberValley();
            Edge.is(x, 1, "stand", 63, kind / 4, kind % 4, 200);
            for (int other = 0; other < 16; other++) {
                Edge.is(x, other == kind ? 200 : 0, "of", 63, 5 + other);
            }
            Edge.is(x, 200, "of", 63, 4);
            Edge.is(x, 0, "stand", 63, kind / 4, kind % 4, 201);
            Edge.is(x, 200, "count", 13);
            Edge.is(x, 1, "stand", 63, kind / 4, kind % 4, 0);
            Edge.is(x, 0, "stand", 63, kind / 4, kind % 4, -1);
            Edge.is(x, 0, "count", 13);
        }
        for (int wrong : new int[] {-1, 4, LOW, HIGH}) {
            Edge.refuses(RICH, 0, "stand", 10, wrong, 3, 1);
            Edge.refuses(RICH, 0, "stand", 10, 0, wrong, 1);
        }
        for (int many : new int[] {-1, 201, LOW, HIGH}) {
            Edge.refuses(RICH, 0, "stand", 10, 0, 3, many);
        }
        Edge.changes(RICH, 1, "stand", 10, 0, 3, 200);
        Edge.changes(RICH, 1, "stand", 10, 0, 3, 0);
        Edge.changes(RICH, 1, "stand", 10, 3, 0, 1);
    }

    private static void far() {
        Edge.says("FAR of a CELL: how far x and y are from those of the MILL's, together "
                + "(the MILL's CELL is 0 at first).");
        TimberValley first = new TimberValley();
        for (int cell = 0; cell < 64; cell++) {
            Edge.is(first, cell % 8 + cell / 8, "of", cell, 3);
        }
        for (int mill = 0; mill < 64; mill++) {
            TimberValley x = new TimberValley();
            Edge.is(x, 1, "mill", mill);
            for (int cell = 0; cell < 64; cell++) {
                int apart = Math.abs(cell % 8 - mill % 8) + Math.abs(cell / 8 - mill / 8);
                Edge.is(x, apart, "of", cell, 3);
            }
        }
    }

    private static void mill() {
        Edge.says("The MILL's CELL. False: no such one, a LOG has come already.");
        Edge.Run cut = x -> {
            x.mill(20);
            x.crew(0);
            x.stand(3, 0, 0, 2);
            x.stand(20, 0, 0, 1);
        };
        Edge.changes(cut, 1, "mill", 0);
        Edge.changes(cut, 1, "mill", 63);
        Edge.is(Edge.made(cut), -4, "fall", 0, 3, 0, 0, 5);
        TimberValley x = Edge.made(cut);
        x.fall(0, 3, 0, 0, 5);
        Edge.is(x, 1, "mill", 21);
        Edge.Run fallen = y -> {
            cut.on(y);
            y.fall(0, 20, 0, 0, 4);
        };
        for (int cell : new int[] {-1, 0, 20, 21, 63, 64}) {
            Edge.refuses(fallen, 0, "mill", cell);
        }
        Edge.Run sawn = y -> {
            fallen.on(y);
            y.day();
            y.saw(0);
        };
        Check.is("the only log is sawn", 1, Edge.made(sawn).count(22));
        Edge.refuses(sawn, 0, "mill", 21);
    }

    private static void weatherNumbers() {
        Edge.says("SNOW, WATER, DRY (0 to 9 each)");
        for (int what = 0; what < 3; what++) {
            for (int v = 0; v <= 9; v++) {
                TimberValley x = new TimberValley();
                Edge.is(x, 1, "weather", 0, what == 0 ? v : 2, what == 1 ? v : 2, what == 2 ? v : 2);
                for (int other = 0; other < 3; other++) {
                    Edge.is(x, what == other ? v : 2, "weatherOf", 0, other);
                }
            }
            for (int v : new int[] {-1, 10, LOW, HIGH}) {
                Edge.refuses(RICH, 0, "weather", 7, what == 0 ? v : 2, what == 1 ? v : 2, what == 2 ? v : 2);
            }
        }
    }

    private static void weatherDays() {
        Edge.says("SNOW, WATER, DRY of a DAY that is not ahead of that at hand. False: other numbers, 200 were told.");
        Check.is("the day at hand", 6, Edge.made(RICH).count(0));
        for (int day : new int[] {5, 0, -1, 4000, LOW, HIGH}) {
            Edge.refuses(RICH, 0, "weather", day, 1, 1, 1);
        }
        for (int day : new int[] {6, 7, 3999}) {
            Edge.changes(RICH, 1, "weather", day, 1, 1, 1);
            TimberValley x = Edge.made(RICH);
            x.weather(day, 1, 8, 1);
            Edge.is(x, 8, "weatherOf", day, 1);
        }
    }

    private static void weatherAhead() {
        Edge.says("those told of it, else of the latest DAY ahead of which they were told; else 0, 5, 3.");
        TimberValley x = new TimberValley();
        int[] first = {0, 5, 3};
        x.weather(30, 3, 3, 3);
        x.weather(10, 1, 1, 1);
        x.weather(20, 2, 2, 2);
        for (int what = 0; what < 3; what++) {
            Edge.is(x, first[what], "weatherOf", 0, what);
            Edge.is(x, first[what], "weatherOf", 9, what);
            Edge.is(x, 1, "weatherOf", 10, what);
            Edge.is(x, 1, "weatherOf", 19, what);
            Edge.is(x, 2, "weatherOf", 20, what);
            Edge.is(x, 2, "weatherOf", 29, what);
            Edge.is(x, 3, "weatherOf", 30, what);
            Edge.is(x, 3, "weatherOf", 3999, what);
        }
        x.weather(20, 7, 8, 9);
        Edge.is(x, 7, "weatherOf", 29, 0);
        Edge.is(x, 9, "weatherOf", 20, 2);
        Edge.is(x, 3, "weatherOf", 30, 1);
        TimberValley y = new TimberValley();
        y.weather(0, 0, 0, 0);
        Edge.is(y, 0, "weatherOf", 0, 1);
        Edge.is(y, 0, "weatherOf", 3999, 2);
    }

    private static void weatherFull() {
        Edge.says("200 were told");
        Edge.Run full = x -> {
            for (int i = 0; i < 200; i++) {
                x.weather(3 * i, i % 10, 1, 2);
            }
        };
        Edge.refuses(full, 0, "weather", 1, 3, 3, 3);
        Edge.refuses(full, 0, "weather", 3999, 3, 3, 3);
        TimberValley x = new TimberValley();
        for (int i = 0; i < 199; i++) {
            Edge.is(x, 1, "weather", i, 4, 4, 4);
        }
        Edge.is(x, 0, "weather", 300, 10, 0, 0);
        Edge.is(x, 1, "weather", 300, 9, 9, 9);
        Edge.is(x, 0, "weather", 301, 8, 8, 8);
        Edge.is(x, 9, "weatherOf", 301, 0);
    }

    private static void weatherOf() {
        Edge.says("SNOW (what 0), WATER (1), DRY (2) of a DAY (0 to 3999). NONE: no such ones.");
        for (int day : new int[] {-1, 4000, LOW, HIGH}) {
            Edge.refuses(RICH, -1, "weatherOf", day, 0);
        }
        for (int what : new int[] {-1, 3, LOW, HIGH}) {
            Edge.refuses(RICH, -1, "weatherOf", 6, what);
        }
        TimberValley x = Edge.made(RICH);
        Edge.is(x, 4, "weatherOf", 3, 0);
        Edge.is(x, 6, "weatherOf", 3, 1);
        Edge.is(x, 5, "weatherOf", 3, 2);
        Edge.is(x, 9, "weatherOf", 3999, 2);
        Edge.is(x, 5, "weatherOf", 0, 1);
    }

    private static void sorts() {
        Edge.says("SORT: GROW (0 to 100; 20 at first), TAPER (1 to 3; 1 at first).");
        Edge.says("GROW, TAPER. False: no such SORT, other numbers.");
        for (int sort : new int[] {-1, 4, LOW, HIGH}) {
            Edge.refuses(RICH, 0, "sort", sort, 50, 2);
        }
        for (int grow : new int[] {-1, 101, LOW, HIGH}) {
            Edge.refuses(RICH, 0, "sort", 1, grow, 1);
        }
        for (int taper : new int[] {0, 4, -1, LOW, HIGH}) {
            Edge.refuses(RICH, 0, "sort", 1, 60, taper);
        }
        Edge.changes(RICH, 1, "sort", 0, 0, 1);
        Edge.changes(RICH, 1, "sort", 3, 100, 1);
        Edge.changes(RICH, 1, "sort", 1, 50, 3);
        Edge.changes(RICH, 1, "sort", 1, 50, 1);
        for (int sort = 0; sort < 4; sort++) {
            for (int taper = 1; taper <= 3; taper++) {
                TimberValley x = new TimberValley();
                Edge.is(x, 10 * (29 + sort), "worth", sort, 3, 2);
                Edge.is(x, 1, "sort", sort, 20, taper);
                Edge.is(x, 10 * (31 + sort - 2 * taper), "worth", sort, 3, 2);
                int other = (sort + 1) % 4;
                Edge.is(x, 10 * (29 + other), "worth", other, 3, 2);
            }
        }
    }

    /** STEMS of SORT 0 by their CLASSES, a YEAR later. */
    private static void grown(int grow, int[] stems, int[] due) {
        TimberValley x = new TimberValley();
        if (grow != 20) {
            Edge.is(x, 1, "sort", 0, grow, 1);
        }
        for (int c = 0; c < 4; c++) {
            x.stand(33, 0, c, stems[c]);
        }
        Check.days(x, 100);
        for (int c = 0; c < 4; c++) {
            Check.is("GROW " + grow + ": class " + c, due[c], x.of(33, 5 + c));
        }
    }

    private static void growRoundedDown() {
        Edge.says("as many STEMS as GROW of a hundred (rounded down) go to the next CLASS");
        grown(20, new int[] {4, 0, 0, 0}, new int[] {4, 0, 0, 0});
        grown(20, new int[] {5, 0, 0, 0}, new int[] {4, 1, 0, 0});
        grown(20, new int[] {9, 0, 0, 0}, new int[] {8, 1, 0, 0});
        grown(20, new int[] {10, 0, 0, 0}, new int[] {8, 2, 0, 0});
        grown(20, new int[] {200, 0, 0, 0}, new int[] {160, 40, 0, 0});
        grown(0, new int[] {200, 200, 200, 0}, new int[] {200, 200, 200, 0});
        grown(1, new int[] {99, 100, 199, 0}, new int[] {99, 99, 199, 1});
        grown(99, new int[] {1, 0, 0, 0}, new int[] {1, 0, 0, 0});
        grown(99, new int[] {100, 0, 0, 0}, new int[] {1, 99, 0, 0});
        grown(100, new int[] {1, 0, 0, 0}, new int[] {0, 1, 0, 0});
        grown(100, new int[] {0, 0, 0, 200}, new int[] {0, 0, 0, 200});
    }

    private static void growOneClassAYear() {
        Edge.says("As a YEAR ends, in each CELL and SORT, CLASS 2, then 1, then 0");
        grown(100, new int[] {200, 0, 0, 0}, new int[] {0, 200, 0, 0});
        grown(100, new int[] {3, 5, 7, 11}, new int[] {0, 3, 5, 18});
        grown(100, new int[] {200, 200, 200, 0}, new int[] {0, 200, 200, 200});
        grown(50, new int[] {200, 200, 200, 100}, new int[] {100, 200, 200, 200});
    }

    private static void growNotAbove() {
        Edge.says("(not above 200 there)");
        grown(100, new int[] {0, 0, 10, 190}, new int[] {0, 0, 0, 200});
        grown(100, new int[] {0, 0, 11, 190}, new int[] {0, 0, 1, 200});
        grown(100, new int[] {0, 0, 11, 200}, new int[] {0, 0, 11, 200});
        grown(20, new int[] {50, 195, 0, 0}, new int[] {40, 166, 39, 0});
        grown(10, new int[] {200, 200, 200, 199}, new int[] {199, 200, 200, 200});
    }

    private static void growOfASort() {
        Edge.says("GROW (0 to 100; 20 at first)");
        TimberValley first = new TimberValley();
        for (int sort = 0; sort < 4; sort++) {
            first.stand(8, sort, 0, 200);
            first.stand(8, sort, 2, 199);
        }
        Check.days(first, 100);
        for (int sort = 0; sort < 4; sort++) {
            Edge.is(first, 160, "of", 8, 5 + 4 * sort);
            Edge.is(first, 40, "of", 8, 6 + 4 * sort);
            Edge.is(first, 39, "of", 8, 8 + 4 * sort);
        }
        int[] grow = {100, 20, 0, 50};
        int[] goes = {60, 12, 0, 30};
        TimberValley x = new TimberValley();
        x.sort(0, 100, 1);
        x.sort(2, 0, 1);
        x.sort(3, 50, 1);
        for (int i = 0; i < 8; i++) {
            x.stand(i < 4 ? 0 : 63, i % 4, 1, 60);
        }
        Check.days(x, 100);
        for (int i = 0; i < 8; i++) {
            Check.is("left of GROW " + grow[i % 4], 60 - goes[i % 4], x.of(i < 4 ? 0 : 63, 6 + 4 * (i % 4)));
            Check.is("came of GROW " + grow[i % 4], goes[i % 4], x.of(i < 4 ? 0 : 63, 7 + 4 * (i % 4)));
        }
    }

    private static void yearsEnd() {
        Edge.says("MONTHS (25 DAYS) and YEARS end with their last DAY.");
        TimberValley x = new TimberValley();
        x.stand(1, 2, 0, 100);
        Check.days(x, 99);
        Edge.is(x, 99, "count", 0);
        Edge.is(x, 100, "of", 1, 13);
        x.day();
        Edge.is(x, 80, "of", 1, 13);
        Check.days(x, 99);
        Edge.is(x, 199, "count", 0);
        Edge.is(x, 80, "of", 1, 13);
        x.day();
        Edge.is(x, 64, "of", 1, 13);
        Edge.is(x, 20 - 4 + 16, "of", 1, 14);
        Edge.is(x, 4, "of", 1, 15);
    }

    private static void halfTheSlash() {
        Edge.says("SLASH is half (rounded down).");
        int[] falls = {0, 1, 2, 3};
        int[] due = {0, 1, 3, 4};
        for (int i = 0; i < 4; i++) {
            TimberValley x = new TimberValley();
            x.crew(0);
            x.stand(63, 0, 0, 9);
            for (int f = 0; f < falls[i]; f++) {
                x.fall(0, 63, 0, 0, 4);
            }
            Check.days(x, 99);
            Edge.is(x, 3 * falls[i], "of", 63, 1);
            x.day();
            Edge.is(x, due[i], "of", 63, 1);
            Check.days(x, 100);
            Edge.is(x, due[i] / 2, "of", 63, 1);
        }
    }

    private static void of() {
        Edge.says("Of a CELL what 0 HEIGHT, 1 SLASH, 2 LOGS lying, 3 FAR, 4 all STEMS, "
                + "5 and 4 SORT and CLASS STEMS of these. NONE for others.");
        for (int cell : new int[] {-1, 64, LOW, HIGH}) {
            for (int what : new int[] {0, 4, 5, 20}) {
                Edge.refuses(RICH, -1, "of", cell, what);
            }
        }
        for (int what : new int[] {-1, 21, LOW, HIGH}) {
            Edge.refuses(RICH, -1, "of", 10, what);
        }
        TimberValley x = new TimberValley();
        x.crew(0);
        x.mill(56);
        x.cell(63, 17);
        x.stand(63, 3, 3, 6);
        x.stand(63, 0, 0, 7);
        x.fall(0, 63, 3, 3, 22);
        int[] due = {17, 3, 2, 7, 12, 7};
        for (int what = 0; what <= 5; what++) {
            Edge.is(x, due[what], "of", 63, what);
        }
        for (int what = 6; what <= 19; what++) {
            Edge.is(x, 0, "of", 63, what);
        }
        Edge.is(x, 5, "of", 63, 20);
    }
}
