import java.util.NoSuchElementException;

/** A timber company's valley, as ../shared/DOC.md promises it. */
public final class TimberValley {
    /** There is none. */
    public static final int NONE = -1;

    private static final int LAST_DAY = 3999;
    private static final int YEAR = 100;
    private static final int MONTH = 25;
    private static final int SIDE = 8;
    private static final int CELLS = SIDE * SIDE;
    private static final int SORTS = 4;
    private static final int CLASSES = 4;
    private static final int MAX_WIDE = 34;
    private static final int MAX_UNITS = 10;
    private static final int MAX_LOGS = 300;
    private static final int MAX_WAYS = 40;
    private static final int MAX_CREWS = 20;
    private static final int MAX_DOUBLES = 60;
    private static final int MAX_IRON = 5000;
    private static final int RAIL_IRON = 10;
    private static final int NO_LEAVE = -1000000;

    private static final int LYING = 0;
    private static final int IN_POND = 1;
    private static final int SAWN = 2;
    private static final int BURNT = 3;
    private static final int SUNK = 4;

    private static final int SKID = 0;
    private static final int RAIL = 1;
    private static final int FLUME = 2;
    private static final int ROAD = 3;
    private static final int STREAM = 4;

    private final Sky sky = new Sky();
    private final Land land = new Land();
    private final Bucking bucking = new Bucking();
    private final Log[] logs = new Log[MAX_LOGS];
    private int logCount = 0;
    private final Way[] ways = new Way[MAX_WAYS];
    private int wayCount = 0;
    private int ironStored = 0;
    private final Tape tape = new Tape();
    private final Statutes statutes = new Statutes();
    private final Crew[] crews = new Crew[MAX_CREWS];
    private int crewCount = 0;
    private int leaseRule = 0;
    private final int[] doubleScaler = new int[MAX_DOUBLES];
    private final int[] doubleLog = new int[MAX_DOUBLES];
    private final int[] doubleFound = new int[MAX_DOUBLES];
    private int doubleCount = 0;
    private final SawMill sawMill = new SawMill();
    private final Plans plans = new Plans();
    private final Cruises cruises = new Cruises();

    public TimberValley() {
    }

    // ---- the land and its weather ----

    public boolean cell(int cell, int height) {
        if (!isCell(cell) || !within(height, 0, 40)) {
            return false;
        }
        land.height[cell] = height;
        return true;
    }

    public boolean stand(int cell, int sort, int c, int many) {
        if (!isCell(cell) || !isStem(sort, c) || !within(many, 0, Land.MAX_STEMS)) {
            return false;
        }
        land.stems[Land.stemPlace(cell, sort, c)] = many;
        return true;
    }

    public boolean sort(int sort, int grow, int taper) {
        if (!within(sort, 0, SORTS - 1) || !within(grow, 0, 100) || !within(taper, 1, 3)) {
            return false;
        }
        land.grow[sort] = grow;
        land.taper[sort] = taper;
        return true;
    }

    public boolean mill(int cell) {
        if (!isCell(cell) || logCount > 0) {
            return false;
        }
        land.millCell = cell;
        return true;
    }

    public boolean weather(int day, int snow, int water, int dry) {
        return sky.tell(day, snow, water, dry);
    }

    public int weatherOf(int day, int what) {
        if (!isDay(day) || !within(what, 0, Sky.KINDS - 1)) {
            return NONE;
        }
        return sky.on(day, what);
    }

    public int of(int cell, int what) {
        if (!isCell(cell)) {
            return NONE;
        }
        switch (what) {
            case 0:
                return land.height[cell];
            case 1:
                return land.slash[cell];
            case 2:
                return land.logsLying[cell];
            case 3:
                return land.far(cell);
            case 4:
                return land.stemsIn(cell);
            default:
                return within(what, 5, 4 + Land.STEM_KINDS)
                        ? land.stems[cell * Land.STEM_KINDS + what - 5] : NONE;
        }
    }

    // ---- stems and their pieces ----

    public boolean price(int units, int v) {
        if (!within(units, Bucking.LEAST, Bucking.GREATEST) || !within(v, 0, 99)) {
            return false;
        }
        bucking.prices[units] = v;
        return true;
    }

    public int buck(int sort, int c) {
        return isStem(sort, c) ? bucking.chooseBest(land, sort, c) : NONE;
    }

    public int piece(int sort, int c, int i) {
        if (!isStem(sort, c)) {
            return NONE;
        }
        bucking.chooseBest(land, sort, c);
        return within(i, 0, bucking.many - 1) ? bucking.pieces[i] : NONE;
    }

    public int worth(int sort, int c, int row) {
        return isStem(sort, c) ? bucking.chooseRow(land, sort, c, row) : NONE;
    }

    public int fall(int crew, int cell, int sort, int c, int row) {
        Crew cutter = crewAt(crew);
        if (cutter == null || cutter.left || !isCell(cell) || !isStem(sort, c)) {
            return NONE;
        }
        if (land.stems[Land.stemPlace(cell, sort, c)] == 0) {
            return -2;
        }
        askOfCut(crew, cell, sort, c);
        if (statutes.barring(sky.today, Statutes.CUT) != NONE) {
            return -3;
        }
        int worth = row == 0
                ? bucking.chooseBest(land, sort, c) : bucking.chooseRow(land, sort, c, row);
        if (worth == NONE) {
            return -4;
        }
        if (logCount + bucking.many > MAX_LOGS) {
            return -5;
        }
        // The law is asked ahead of the cut: its slash would alter the answer.
        int pay = statutes.numberOn(sky.today, Statutes.PAY);
        cutter.earned += pay * makeLogs(cell, sort, c, cutter.brand);
        land.takeStem(cell, sort, c);
        return bucking.many;
    }

    /** Makes the chosen pieces LOGS and answers their SCALE by the rule of the lease. */
    private int makeLogs(int cell, int sort, int c, int brand) {
        int scale = 0;
        int end = 0;
        for (int i = 0; i < bucking.many; i++) {
            int units = bucking.pieces[i];
            end += units;
            Log log = new Log(logCount, cell, sort, units, land.wideAt(sort, c, end), brand);
            log.comeOn(sky.today);
            logs[logCount] = log;
            logCount++;
            become(log, LYING);
            scale += log.scaleBy(leaseRule);
        }
        return scale;
    }

    public int log(int log, int what) {
        Log one = logAt(log);
        return one == null ? NONE : one.told(what);
    }

    // ---- ways, and a day that goes by ----

    public int way(int kind, int from, int to) {
        if (!isCell(from) || !isCell(to) || !Land.sideBySide(from, to)) {
            return NONE;
        }
        if (!within(kind, SKID, STREAM) || wayCount >= MAX_WAYS) {
            return NONE;
        }
        ways[wayCount] = new Way(kind, from, to);
        wayCount++;
        return wayCount - 1;
    }

    public int iron(int n) {
        if (!within(n, 0, 500) || ironStored + n > MAX_IRON) {
            return NONE;
        }
        ironStored += n;
        return ironStored;
    }

    public boolean lay(int way, boolean is) {
        Way rail = wayAt(way);
        if (rail == null || rail.kind != RAIL || rail.laid == is) {
            return false;
        }
        if (is && ironStored < RAIL_IRON) {
            return false;
        }
        ironStored += is ? -RAIL_IRON : RAIL_IRON;
        rail.laid = is;
        return true;
    }

    private int ironLaid() {
        int sum = 0;
        for (int i = 0; i < wayCount; i++) {
            Way one = ways[i];
            sum += one != null && one.laid ? RAIL_IRON : 0;
        }
        return sum;
    }

    public boolean dam(int way) {
        Way stream = wayAt(way);
        if (stream == null || stream.kind != STREAM || stream.damDay == sky.today) {
            return false;
        }
        stream.damDay = sky.today;
        return true;
    }

    public int carry(int way) {
        Way one = wayAt(way);
        return one == null ? NONE : carryNow(one);
    }

    private int carryNow(Way one) {
        askOfWay(one);
        if (statutes.barring(sky.today, Statutes.CARRY) != NONE) {
            return 0;
        }
        return one.bears(land, sky);
    }

    public int day() {
        if (sky.today >= LAST_DAY) {
            return NONE;
        }
        int carried = 0;
        for (int i = 0; i < wayCount; i++) {
            Way one = ways[i];
            if (one != null && land.logsLying[one.from] > 0) {
                carried += carryOver(one);
            }
        }
        floatLogsAtMill();
        if (sky.today % MONTH == MONTH - 1) {
            closeMonth();
        }
        if (sky.today % YEAR == YEAR - 1) {
            land.endYear();
        }
        sky.nextDay();
        return carried;
    }

    private int carryOver(Way one) {
        int room = carryNow(one);
        int carried = 0;
        for (int i = 0; i < logCount && room > 0; i++) {
            Log log = logs[i];
            if (log != null && log.waitsIn(one.from, sky.today) && log.volume() <= room) {
                room -= log.volume();
                carried++;
                moveLog(log, one);
            }
        }
        return carried;
    }

    private void moveLog(Log log, Way one) {
        land.logsLying[log.cell]--;
        land.logsLying[one.to]++;
        log.cell = one.to;
        log.came = sky.today;
        if (one.kind == STREAM && sky.now(Sky.WATER) == 9 && log.wide > 30) {
            become(log, SUNK);
        }
    }

    /** What came to the MILL's CELL today need not be told from what fell there: none goes on. */
    private void floatLogsAtMill() {
        if (land.logsLying[land.millCell] == 0) {
            return;
        }
        for (int i = 0; i < logCount; i++) {
            Log log = logs[i];
            if (log != null && log.liesIn(land.millCell)) {
                become(log, IN_POND);
            }
        }
    }

    private void become(Log log, int state) {
        int lay = log.became == LYING ? 1 : 0;
        int lies = state == LYING ? 1 : 0;
        land.logsLying[log.cell] += lies - lay;
        log.change(state, sky.today, sky.today + land.far(log.cell) / 4);
    }

    // ---- law ----

    public int feed(int a, int b, int c, int d, int e) {
        if (tape.size + 20 > Tape.MAX_BYTES) {
            return NONE;
        }
        tape.append(a);
        tape.append(b);
        tape.append(c);
        tape.append(d);
        tape.append(e);
        return tape.size;
    }

    public int end(int n) {
        if (!within(n, 0, tape.size)) {
            return NONE;
        }
        tape.size = n;
        return n;
    }

    public int law(int from) {
        if (!isDay(from) || statutes.texts >= Statutes.MAX_TEXTS) {
            return NONE;
        }
        return statutes.tell(from, tape);
    }

    public int place() {
        return statutes.faultPlace;
    }

    public int why(int crew, int cell, int sort, int c) {
        if (crewAt(crew) == null || !isCell(cell) || !isStem(sort, c)) {
            return -2;
        }
        askOfCut(crew, cell, sort, c);
        return statutes.barring(sky.today, Statutes.CUT);
    }

    public int whyWay(int way) {
        Way one = wayAt(way);
        if (one == null) {
            return -2;
        }
        askOfWay(one);
        return statutes.barring(sky.today, Statutes.CARRY);
    }

    public int due(int crew, int what) {
        if (crewAt(crew) == null || !within(what, 0, 2)) {
            return NONE;
        }
        return numberFor(crew, Statutes.PAY + what);
    }

    private int numberFor(int crew, int verb) {
        statutes.askOfDay(sky);
        statutes.asked[Statutes.CREW] = crew;
        return statutes.numberOn(sky.today, verb);
    }

    private void askOfCut(int crew, int cell, int sort, int c) {
        statutes.askOfDay(sky);
        statutes.askOfCell(land, cell);
        statutes.asked[Statutes.SORT] = sort;
        statutes.asked[Statutes.CLASS] = c;
        statutes.asked[Statutes.CREW] = crew;
    }

    private void askOfWay(Way one) {
        statutes.askOfDay(sky);
        statutes.askOfCell(land, one.from);
        statutes.asked[Statutes.WAY] = one.kind;
    }

    // ---- crews ----

    public int crew(int brand) {
        if (!within(brand, 0, 9) || crewCount >= MAX_CREWS) {
            return NONE;
        }
        crews[crewCount] = new Crew(brand);
        crewCount++;
        return crewCount - 1;
    }

    public int shop(int crew, int v) {
        Crew buyer = crewAt(crew);
        if (buyer == null || buyer.left || !within(v, 1, 999)) {
            return NONE;
        }
        if (buyer.owes + v > numberFor(crew, Statutes.CREDIT)) {
            return -2;
        }
        buyer.owes += v;
        return buyer.owes;
    }

    public int leave(int crew) {
        Crew one = crewAt(crew);
        return one == null || one.left ? NO_LEAVE : one.settleForGood();
    }

    public int crewOf(int crew, int what) {
        Crew one = crewAt(crew);
        return one == null ? NONE : one.told(what);
    }

    private void closeMonth() {
        for (int i = 0; i < crewCount; i++) {
            Crew one = crews[i];
            if (one != null && !one.left) {
                one.closeMonth(numberFor(i, Statutes.RENT));
            }
        }
    }

    // ---- the lease and the scalers ----

    public boolean lease(int rule) {
        if (!within(rule, 0, 1)) {
            return false;
        }
        leaseRule = rule;
        return true;
    }

    public int scale(int log, int rule) {
        Log one = logAt(log);
        return one == null || !within(rule, 0, 1) ? NONE : one.scaleBy(rule);
    }

    public boolean found(int scaler, int log, int v) {
        if (!within(scaler, 0, 4) || logAt(log) == null) {
            return false;
        }
        if (!within(v, 0, 999) || doubleCount >= MAX_DOUBLES) {
            return false;
        }
        doubleScaler[doubleCount] = scaler;
        doubleLog[doubleCount] = log;
        doubleFound[doubleCount] = v;
        doubleCount++;
        return true;
    }

    public int hand(int scaler, int what) throws NoSuchElementException {
        int many = 0;
        int sum = 0;
        int least = 0;
        int greatest = 0;
        for (int i = 0; i < doubleCount; i++) {
            if (doubleScaler[i] == scaler) {
                int apart = doubleDifference(i);
                least = many == 0 ? apart : Math.min(least, apart);
                greatest = many == 0 ? apart : Math.max(greatest, apart);
                sum += apart;
                many++;
            }
        }
        if (many == 0 || !within(what, 0, 1)) {
            throw new NoSuchElementException();
        }
        return what == 0 ? Math.floorDiv(sum, many) : greatest - least;
    }

    private int doubleDifference(int i) {
        Log log = logAt(doubleLog[i]);
        return log == null ? 0 : doubleFound[i] - log.scaleBy(leaseRule);
    }

    // ---- the saw mill ----

    public int order(int thick, int units, int boards, int price, int ship) {
        if (!within(thick, 1, 12) || !within(units, Bucking.LEAST, Bucking.GREATEST)) {
            return NONE;
        }
        if (!within(boards, 1, 99) || !within(price, 1, 99)) {
            return NONE;
        }
        if (!within(ship, sky.today, LAST_DAY) || sawMill.many >= SawMill.MAX_ORDERS) {
            return NONE;
        }
        return sawMill.add(thick, units, boards, price, ship);
    }

    public int best(int log) {
        Log one = pondLogAt(log);
        if (one == null) {
            return NONE;
        }
        sawMill.plan(one, sky.today);
        return sawMill.sums[0];
    }

    public int board(int log, int place) {
        Log one = pondLogAt(log);
        if (one == null || !within(place, 0, one.wide - 1)) {
            return NONE;
        }
        sawMill.plan(one, sky.today);
        return sawMill.begun[place];
    }

    public int saw(int log) {
        Log one = pondLogAt(log);
        if (one == null) {
            return NONE;
        }
        sawMill.plan(one, sky.today);
        int boards = sawMill.deliver(one.wide, sky.today);
        become(one, SAWN);
        return boards;
    }

    public int orderOf(int order, int what) throws NoSuchElementException {
        if (!within(order, 0, sawMill.many - 1) || !within(what, 0, 2)) {
            throw new NoSuchElementException();
        }
        int met = sawMill.metDay[order];
        if (what == 2 && met == NONE) {
            throw new NoSuchElementException();
        }
        if (what == 0) {
            return sawMill.lacks[order];
        }
        return what == 1 ? met : sawMill.ship[order] - met;
    }

    // ---- fire ----

    public int fire(int cell, int wind, int steps) {
        if (!isCell(cell) || !within(wind, 0, 3) || !within(steps, 1, 20)) {
            return NONE;
        }
        return burnFrom(cell, wind, steps);
    }

    public int burn(int cell) {
        if (!isCell(cell)) {
            return NONE;
        }
        statutes.askOfDay(sky);
        statutes.askOfCell(land, cell);
        if (statutes.barring(sky.today, Statutes.FIRE) != NONE) {
            return -2;
        }
        land.slash[cell] = 0;
        return sky.now(Sky.DRY) >= 7 ? burnFrom(cell, 0, 3) : 0;
    }

    private int burnFrom(int cell, int wind, int steps) {
        int burnt = land.spreadFire(cell, wind, steps, sky.now(Sky.DRY));
        land.clearBurnt();
        for (int i = 0; i < logCount; i++) {
            Log log = logs[i];
            if (log != null && log.became == LYING && land.burntAt[log.cell] > 0) {
                become(log, BURNT);
            }
        }
        return burnt;
    }

    // ---- plans ----

    public int spur(int cells, int iron, int cost) {
        if (cells <= 0 || !within(iron, 1, 50) || !within(cost, 0, 999)) {
            return NONE;
        }
        return plans.spurs >= Plans.MAX_SPURS ? NONE : plans.addSpur(cells, iron, cost);
    }

    public boolean asked(int season, int cells) {
        if (!within(season, 0, Plans.SEASONS - 1) || cells < 0) {
            return false;
        }
        plans.reached[season] = cells;
        return true;
    }

    public int rails(int haul) {
        return within(haul, 0, 999) ? plans.planRails(haul, ironStored) : NONE;
    }

    public int railsOf(int haul, int season) {
        if (!within(haul, 0, 999) || !within(season, 0, Plans.SEASONS - 1)) {
            return NONE;
        }
        plans.planRails(haul, ironStored);
        return plans.chosen[season];
    }

    public int forty(int a0, int a1, int a2, int a3, int least, int greatest, int kept) {
        if (!within(a0, 0, 9) || !within(a1, 0, 9) || !within(a2, 0, 9) || !within(a3, 0, 9)) {
            return NONE;
        }
        if (a0 + a1 + a2 + a3 > Plans.MAX_AREAS || !within(kept, 0, Plans.MAX_AREAS)) {
            return NONE;
        }
        if (!within(least, 0, 60) || !within(greatest, 0, 60)) {
            return NONE;
        }
        plans.startCuts(a0, a1, a2, a3);
        return plans.planCuts(least, greatest, kept);
    }

    public int cutIn(int period, int what) {
        if (!plans.cutsTold || !within(period, 0, Plans.PERIODS - 1) || !within(what, 0, 1)) {
            return NONE;
        }
        return plans.cuts[2 * period + what];
    }

    // ---- cruises ----

    public boolean row(int r, boolean floats, int n) {
        if (!within(r, 0, Cruises.ROWS - 1) || !within(n, 0, Cruises.MAX_PLACES)) {
            return false;
        }
        cruises.begin(r, floats, n);
        return true;
    }

    public boolean write(int r, int place, int v) {
        return cruises.hasPlace(r, place) && cruises.put(r, place, v);
    }

    public int each(int r, int place) throws NoSuchElementException {
        if (!cruises.hasPlace(r, place) || !cruises.hasNumber(r)) {
            throw new NoSuchElementException();
        }
        return cruises.eighthsAt(r, place);
    }

    public int cruise(int r, int what) {
        if (!cruises.hasRow(r) || !within(what, 0, 1)) {
            return NONE;
        }
        if (!cruises.hasNumber(r)) {
            return 0;
        }
        return what == 0 ? cruises.sumOf(r) : cruises.spreadOf(r);
    }

    // ---- what the mill knew, and the register ----

    public int knew(int log, int d, int k) {
        Log one = logAt(log);
        if (one == null || !within(k, 0, sky.today) || !within(d, 0, k)) {
            return -2;
        }
        return one.knownAs(d, k);
    }

    public boolean alter(int log, int place, int mask) {
        Log one = logAt(log);
        if (one == null || !within(place, 0, Log.NUMBERS - 1) || !within(mask, 1, 65535)) {
            return false;
        }
        one.register[place] ^= mask;
        return true;
    }

    public int checked(int log, int what) {
        Log one = logAt(log);
        if (one == null || !within(what, 0, 1)) {
            return -3;
        }
        int place = one.faultyPlace();
        if (what == 0) {
            return place;
        }
        return place < 0 ? -3 : one.rightNumber(place);
    }

    // ---- counts ----

    public int count(int what) {
        switch (what) {
            case 0:
                return sky.today;
            case 1:
                return logCount;
            case 2:
                return wayCount;
            case 3:
                return ironStored;
            case 4:
                return ironLaid();
            case 5:
                return statutes.texts;
            case 6:
                return crewCount;
            case 7:
                return sawMill.many;
            case 8:
                return sawMill.stock;
            case 9:
                return tape.size;
            case 10:
                return doubleCount;
            case 11:
                return plans.spurs;
            case 12:
                return wagesPaid();
            case 13:
                return land.allStems();
            default:
                return within(what, 20, 20 + SUNK) ? logsThatBecame(what - 20) : NONE;
        }
    }

    private int wagesPaid() {
        int sum = 0;
        for (int i = 0; i < crewCount; i++) {
            Crew one = crews[i];
            sum += one == null ? 0 : one.paid;
        }
        return sum;
    }

    private int logsThatBecame(int state) {
        int many = 0;
        for (int i = 0; i < logCount; i++) {
            Log log = logs[i];
            if (log != null && log.became == state) {
                many++;
            }
        }
        return many;
    }

    // ---- what there is ----

    private static boolean within(int v, int least, int greatest) {
        return v >= least && v <= greatest;
    }

    private static boolean isDay(int day) {
        return within(day, 0, LAST_DAY);
    }

    private static boolean isCell(int cell) {
        return within(cell, 0, CELLS - 1);
    }

    private static boolean isStem(int sort, int c) {
        return within(sort, 0, SORTS - 1) && within(c, 0, CLASSES - 1);
    }

    private Log logAt(int log) {
        return within(log, 0, logCount - 1) ? logs[log] : null;
    }

    private Log pondLogAt(int log) {
        Log one = logAt(log);
        return one != null && one.became == IN_POND ? one : null;
    }

    private Way wayAt(int way) {
        return within(way, 0, wayCount - 1) ? ways[way] : null;
    }

    private Crew crewAt(int crew) {
        return within(crew, 0, crewCount - 1) ? crews[crew] : null;
    }

    /** The DAY at hand, and the weather as it was told. */
    private static final class Sky {
        private static final int MAX_TOLD = 200;
        private static final int KINDS = 3;
        private static final int SNOW = 0;
        private static final int WATER = 1;
        private static final int DRY = 2;
        private static final int[] AT_FIRST = {0, 5, 3};

        private final int[] days = new int[MAX_TOLD];
        private final int[] values = new int[MAX_TOLD * KINDS];
        private int many = 0;
        private int today = 0;
        /** What was told for today, kept so that a day's many questions need no search. */
        private int current = NONE;

        boolean tell(int d, int snow, int water, int dry) {
            if (!within(d, today, LAST_DAY) || many >= MAX_TOLD) {
                return false;
            }
            if (!within(snow, 0, 9) || !within(water, 0, 9) || !within(dry, 0, 9)) {
                return false;
            }
            days[many] = d;
            values[many * KINDS + SNOW] = snow;
            values[many * KINDS + WATER] = water;
            values[many * KINDS + DRY] = dry;
            many++;
            current = tellingFor(today);
            return true;
        }

        void nextDay() {
            today++;
            current = tellingFor(today);
        }

        int on(int d, int what) {
            return valueOf(tellingFor(d), what);
        }

        int now(int what) {
            return valueOf(current, what);
        }

        int season() {
            return today % YEAR / MONTH;
        }

        private int tellingFor(int d) {
            int latest = NONE;
            for (int i = 0; i < many; i++) {
                if (days[i] <= d && (latest == NONE || days[i] >= days[latest])) {
                    latest = i;
                }
            }
            return latest;
        }

        private int valueOf(int telling, int what) {
            return telling == NONE ? AT_FIRST[what] : values[telling * KINDS + what];
        }
    }

    /** CELLS with what stands and lies in them, and the fire that goes over them. */
    private static final class Land {
        private static final int STEM_KINDS = SORTS * CLASSES;
        private static final int MAX_STEMS = 200;

        private final int[] height = new int[CELLS];
        private final int[] slash = new int[CELLS];
        private final int[] stems = new int[CELLS * STEM_KINDS];
        private final int[] logsLying = new int[CELLS];
        private final int[] grow = {20, 20, 20, 20};
        private final int[] taper = {1, 1, 1, 1};
        private int millCell = 0;
        /** The step behind which a CELL burns in the latest FIRE, from 1 on; 0: it doesn't. */
        private final int[] burntAt = new int[CELLS];

        static int stemPlace(int cell, int sort, int c) {
            return cell * STEM_KINDS + sort * CLASSES + c;
        }

        static int apart(int one, int other) {
            return Math.abs(one % SIDE - other % SIDE) + Math.abs(one / SIDE - other / SIDE);
        }

        static boolean sideBySide(int one, int other) {
            return apart(one, other) == 1;
        }

        int far(int cell) {
            return apart(cell, millCell);
        }

        static int lengthOf(int c) {
            return 4 + 2 * c;
        }

        int wideAt(int sort, int c, int units) {
            return Math.max(1, 10 + 7 * c + sort - taper[sort] * units);
        }

        int stemsIn(int cell) {
            int sum = 0;
            for (int i = 0; i < STEM_KINDS; i++) {
                sum += stems[cell * STEM_KINDS + i];
            }
            return sum;
        }

        int allStems() {
            int sum = 0;
            for (int cell = 0; cell < CELLS; cell++) {
                sum += stemsIn(cell);
            }
            return sum;
        }

        void takeStem(int cell, int sort, int c) {
            stems[stemPlace(cell, sort, c)]--;
            slash[cell] += 3;
        }

        void endYear() {
            for (int cell = 0; cell < CELLS; cell++) {
                for (int sort = 0; sort < SORTS; sort++) {
                    for (int c = CLASSES - 2; c >= 0; c--) {
                        growClass(stemPlace(cell, sort, c), grow[sort]);
                    }
                }
                slash[cell] /= 2;
            }
        }

        private void growClass(int place, int hundredths) {
            int room = MAX_STEMS - stems[place + 1];
            int going = Math.min(stems[place] * hundredths / 100, room);
            stems[place] -= going;
            stems[place + 1] += going;
        }

        /** Marks what burns and answers how many CELLS that are. */
        int spreadFire(int first, int wind, int steps, int dry) {
            for (int cell = 0; cell < CELLS; cell++) {
                burntAt[cell] = 0;
            }
            burntAt[first] = 1;
            int many = 1;
            for (int step = 1; step <= steps; step++) {
                for (int cell = 0; cell < CELLS; cell++) {
                    // What an older fire did not kindle it doesn't kindle later: nothing alters.
                    if (burntAt[cell] == step) {
                        many += kindle(cell, wind, step + 1, dry);
                    }
                }
            }
            return many;
        }

        private int kindle(int cell, int wind, int step, int dry) {
            int many = 0;
            for (int direction = 0; direction < 4; direction++) {
                int other = beside(cell, direction);
                if (other != NONE && burntAt[other] == 0
                        && catches(cell, other, 5 * dry + windAid(direction, wind))) {
                    burntAt[other] = step;
                    many++;
                }
            }
            return many;
        }

        private boolean catches(int cell, int other, int aid) {
            int standing = stemsIn(other);
            if (standing == 0 && slash[other] == 0) {
                return false;
            }
            int climb = height[other] > height[cell] ? 4 : 0;
            return slash[other] + standing / 10 + aid + climb >= 20;
        }

        /** Directions stand in pairs: each one's opposite differs from it in the lowest bit. */
        private static int windAid(int direction, int wind) {
            if (direction == wind) {
                return 8;
            }
            return direction == (wind ^ 1) ? -8 : 0;
        }

        private static int beside(int cell, int direction) {
            int x = cell % SIDE;
            int y = cell / SIDE;
            switch (direction) {
                case 0:
                    return x < SIDE - 1 ? cell + 1 : NONE;
                case 1:
                    return x > 0 ? cell - 1 : NONE;
                case 2:
                    return y < SIDE - 1 ? cell + SIDE : NONE;
                default:
                    return y > 0 ? cell - SIDE : NONE;
            }
        }

        void clearBurnt() {
            for (int cell = 0; cell < CELLS; cell++) {
                if (burntAt[cell] > 0) {
                    clearCell(cell);
                }
            }
        }

        private void clearCell(int cell) {
            slash[cell] = 0;
            for (int sort = 0; sort < SORTS; sort++) {
                for (int c = 0; c < CLASSES; c++) {
                    int place = stemPlace(cell, sort, c);
                    stems[place] = c < 2 ? 0 : stems[place] / 2;
                }
            }
        }
    }

    /** Rows of pieces of a STEM. */
    private static final class Bucking {
        private static final int LEAST = 2;
        private static final int GREATEST = 6;
        private static final int MAX_PIECES = MAX_UNITS / LEAST;

        private final int[] prices = {0, 0, 10, 10, 10, 10, 10};
        private final int[] sums = new int[MAX_UNITS + 1];
        private final int[] picks = new int[MAX_UNITS + 1];
        private final int[] pieces = new int[MAX_PIECES];
        private int many = 0;

        /** Sets the pieces TO BUCK a STEM and answers what they are worth. */
        int chooseBest(Land land, int sort, int c) {
            int length = Land.lengthOf(c);
            for (int from = length; from >= 0; from--) {
                weigh(land, sort, c, from);
            }
            many = 0;
            int from = 0;
            for (int i = 0; i < MAX_PIECES && picks[from] > 0; i++) {
                pieces[i] = picks[from];
                from += picks[from];
                many++;
            }
            return sums[0];
        }

        private void weigh(Land land, int sort, int c, int from) {
            int length = Land.lengthOf(c);
            sums[from] = NONE;
            picks[from] = 0;
            for (int units = LEAST; units <= GREATEST && from + units <= length; units++) {
                int end = from + units;
                int sum = prices[units] * land.wideAt(sort, c, end) + sums[end];
                if (sum > sums[from]) {
                    sums[from] = sum;
                    picks[from] = units;
                }
            }
            if (picks[from] == 0) {
                sums[from] = 0;
            }
        }

        /** Sets the pieces to those of a row and answers what they are worth, or NONE. */
        int chooseRow(Land land, int sort, int c, int row) {
            if (!takeFigures(row)) {
                return NONE;
            }
            int worth = 0;
            int end = 0;
            for (int i = 0; i < many; i++) {
                end += pieces[i];
                worth += prices[pieces[i]] * land.wideAt(sort, c, end);
            }
            return end <= Land.lengthOf(c) ? worth : NONE;
        }

        private boolean takeFigures(int row) {
            many = 0;
            int figures = figuresOf(row);
            if (figures < 1 || figures > MAX_PIECES) {
                return false;
            }
            int rest = row;
            for (int i = figures - 1; i >= 0; i--) {
                int units = rest % 10;
                if (!within(units, LEAST, GREATEST)) {
                    return false;
                }
                pieces[i] = units;
                rest /= 10;
            }
            many = figures;
            return true;
        }

        /** How many figures a row has; those beyond one too many are not counted. */
        private static int figuresOf(int row) {
            int figures = 0;
            int rest = row;
            while (rest > 0 && figures <= MAX_PIECES) {
                rest /= 10;
                figures++;
            }
            return figures;
        }
    }

    /** A LOG, its changes as the mill comes to know them, and its numbers in THE REGISTER. */
    private static final class Log {
        private static final int NUMBERS = 5;
        private static final int MAX_CHANGES = 4;
        private static final int MODULUS = 65537;

        private final int sort;
        private final int units;
        private final int wide;
        private final int brand;
        private final int fault;
        private int cell;
        private int fellOn = 0;
        private int came = 0;
        private int became = NONE;
        private int changes = 0;
        private final int[] changeTo = new int[MAX_CHANGES];
        private final int[] changeDay = new int[MAX_CHANGES];
        private final int[] changeKnown = new int[MAX_CHANGES];
        private final int[] register = new int[NUMBERS];
        private int sumOfAll = 0;
        private int sumByPlace = 0;

        Log(int number, int cell, int sort, int units, int wide, int brand) {
            this.cell = cell;
            this.sort = sort;
            this.units = units;
            this.wide = wide;
            this.brand = brand;
            int hidden = (number * 7 + cell) % (wide + 3);
            this.fault = hidden < wide ? hidden : NONE;
        }

        void comeOn(int day) {
            fellOn = day;
            came = day;
            register[0] = cell;
            register[1] = sort;
            register[2] = units;
            register[3] = wide;
            register[4] = day;
            sumOfAll = sumNow(false);
            sumByPlace = sumNow(true);
        }

        int volume() {
            return units * wide / 8 + 1;
        }

        int scaleBy(int rule) {
            if (rule == 1) {
                return wide * wide * units / 24;
            }
            int inner = Math.max(0, wide - 4);
            return inner * inner * units / 16;
        }

        boolean liesIn(int place) {
            return became == LYING && cell == place;
        }

        boolean waitsIn(int place, int today) {
            return liesIn(place) && came < today;
        }

        void change(int state, int day, int known) {
            became = state;
            if (changes < MAX_CHANGES) {
                changeTo[changes] = state;
                changeDay[changes] = day;
                changeKnown[changes] = known;
                changes++;
            }
        }

        int knownAs(int d, int k) {
            for (int i = changes - 1; i >= 0; i--) {
                if (changeDay[i] <= d && changeKnown[i] <= k) {
                    return changeTo[i];
                }
            }
            return NONE;
        }

        int told(int what) {
            switch (what) {
                case 0:
                    return cell;
                case 1:
                    return sort;
                case 2:
                    return units;
                case 3:
                    return wide;
                case 4:
                    return fellOn;
                case 5:
                    return brand;
                case 6:
                    return became;
                case 7:
                    return volume();
                case 8:
                    return fault;
                default:
                    return NONE;
            }
        }

        private int sumNow(boolean byPlace) {
            int sum = 0;
            for (int i = 0; i < NUMBERS; i++) {
                sum += byPlace ? register[i] * (i + 1) : register[i];
            }
            return sum % MODULUS;
        }

        /** The one place that may be put right; NONE: both sums are; -2: there is none. */
        int faultyPlace() {
            int lacking = lackingOfAll();
            int lackingByPlace = Math.floorMod(sumByPlace - sumNow(true), MODULUS);
            if (lacking == 0) {
                return lackingByPlace == 0 ? NONE : -2;
            }
            for (int i = 0; i < NUMBERS; i++) {
                if (lacking * (i + 1) % MODULUS == lackingByPlace && rightNumber(i) <= 65535) {
                    return i;
                }
            }
            return -2;
        }

        int rightNumber(int place) {
            return (register[place] + lackingOfAll()) % MODULUS;
        }

        private int lackingOfAll() {
            return Math.floorMod(sumOfAll - sumNow(false), MODULUS);
        }
    }

    /** A WAY from a CELL to one side by side. */
    private static final class Way {
        private final int kind;
        private final int from;
        private final int to;
        private boolean laid = false;
        private int damDay = NONE;

        Way(int kind, int from, int to) {
            this.kind = kind;
            this.from = from;
            this.to = to;
        }

        int bears(Land land, Sky sky) {
            int climb = land.height[to] - land.height[from];
            int snow = sky.now(Sky.SNOW);
            int water = sky.now(Sky.WATER);
            switch (kind) {
                case SKID:
                    return snow > 6 ? 0 : Math.max(0, 30 - 3 * Math.max(0, climb) - snow);
                case RAIL:
                    return laid ? 60 : 0;
                case FLUME:
                    return climb < 0 ? 8 * water : 0;
                case ROAD:
                    return snow >= 3 ? 40 : 0;
                default:
                    return climb < 0 ? streamBears(water, sky) : 0;
            }
        }

        private int streamBears(int water, Sky sky) {
            int perWater = sky.season() == 1 ? 12 : 3;
            return perWater * water + (damDay == sky.today ? 40 : 0);
        }
    }

    /** The TAPE, and its TOKENS one behind the other. */
    private static final class Tape {
        private static final int MAX_BYTES = 300;
        private static final int MAX_DIGITS = 4;
        private static final int END = 0;
        private static final int WORD = 1;
        private static final int NUMBER = 2;
        private static final int SIGN = 3;
        private static final int WRONG = 4;
        private static final String SIGNS = "<=>;";

        private final int[] bytes = new int[MAX_BYTES];
        private int size = 0;
        private int kind = END;
        private int tokenFrom = 0;
        private int tokenTo = 0;

        void append(int four) {
            for (int shift = 24; shift >= 0 && size < MAX_BYTES; shift -= 8) {
                bytes[size] = four >>> shift & 255;
                size++;
            }
        }

        void rewind() {
            tokenTo = 0;
            next();
        }

        void next() {
            int at = tokenTo;
            while (at < size && isBlank(bytes[at])) {
                at++;
            }
            tokenFrom = at;
            if (at >= size) {
                kind = END;
            } else if (isLetter(bytes[at])) {
                kind = WORD;
                at = behindLetters(at);
            } else if (isDigit(bytes[at])) {
                at = behindDigits(at);
                kind = at - tokenFrom > MAX_DIGITS ? WRONG : NUMBER;
            } else {
                kind = SIGNS.indexOf((char) bytes[at]) >= 0 ? SIGN : WRONG;
                at++;
            }
            tokenTo = at;
        }

        private int behindLetters(int from) {
            int at = from;
            while (at < size && isLetter(bytes[at])) {
                at++;
            }
            return at;
        }

        private int behindDigits(int from) {
            int at = from;
            while (at < size && isDigit(bytes[at])) {
                at++;
            }
            return at;
        }

        private static boolean isBlank(int b) {
            return b == 32 || b == 10;
        }

        private static boolean isLetter(int b) {
            return within(b, 'a', 'z');
        }

        private static boolean isDigit(int b) {
            return within(b, '0', '9');
        }

        boolean isEnd() {
            return kind == END;
        }

        boolean isWord(String word) {
            return kind == WORD && isPart(word, 0, word.length());
        }

        /** Which word of a list (with single blanks between) the TOKEN is, from 0 on; or NONE. */
        int wordIn(String list) {
            int which = 0;
            int from = 0;
            for (int at = 0; at <= list.length() && kind == WORD; at++) {
                if (at == list.length() || list.charAt(at) == ' ') {
                    if (isPart(list, from, at)) {
                        return which;
                    }
                    which++;
                    from = at + 1;
                }
            }
            return NONE;
        }

        private boolean isPart(String list, int from, int to) {
            if (to - from != tokenTo - tokenFrom) {
                return false;
            }
            for (int i = 0; i < to - from; i++) {
                if (list.charAt(from + i) != bytes[tokenFrom + i]) {
                    return false;
                }
            }
            return true;
        }

        /** The TOKEN's place among the signs; or NONE. */
        int sign() {
            return kind == SIGN ? SIGNS.indexOf((char) bytes[tokenFrom]) : NONE;
        }

        int number() {
            if (kind != NUMBER) {
                return NONE;
            }
            int value = 0;
            for (int i = tokenFrom; i < tokenTo; i++) {
                value = value * 10 + bytes[i] - '0';
            }
            return value;
        }
    }

    /** The texts of LAW, how they are read, and what they say of what is asked. */
    private static final class Statutes {
        private static final int MAX_TEXTS = 20;
        private static final int MAX_STATEMENTS = 12;
        private static final int MAX_TERMS = 5;
        private static final int ALL_STATEMENTS = MAX_TEXTS * MAX_STATEMENTS;

        private static final String VERBS = "bar pay credit rent";
        private static final int BAR = 0;
        private static final int PAY = 1;
        private static final int CREDIT = 2;
        private static final int RENT = 3;
        private static final int[] WITHOUT = {NONE, 2, 50, 5};

        private static final String DEEDS = "cut carry fire";
        private static final int CUT = 0;
        private static final int CARRY = 1;
        private static final int FIRE = 2;

        private static final String WORDS =
                "cell height sort class season day snow water dry far slash crew way";
        private static final int CELL = 0;
        private static final int HEIGHT = 1;
        private static final int SORT = 2;
        private static final int CLASS = 3;
        private static final int SEASON = 4;
        private static final int DAY = 5;
        private static final int SNOW = 6;
        private static final int WATER = 7;
        private static final int DRY = 8;
        private static final int FAR = 9;
        private static final int SLASH = 10;
        private static final int CREW = 11;
        private static final int WAY = 12;
        private static final int ALL_WORDS = 13;

        /** Places among the TAPE's signs. */
        private static final int LESS = 0;
        private static final int ALIKE = 1;
        private static final int MORE = 2;
        private static final int SEMICOLON = 3;

        /** What the TOKEN at hand is to be. */
        private static final int WANT_NOTHING = 0;
        private static final int WANT_STATEMENT = 1;
        private static final int WANT_DEED = 2;
        private static final int WANT_AMOUNT = 3;
        private static final int WANT_IF = 4;
        private static final int WANT_TERM = 5;
        private static final int WANT_WORD = 6;
        private static final int WANT_RELATION = 7;
        private static final int WANT_VALUE = 8;
        private static final int WANT_JOINT = 9;

        private final int[] begins = new int[MAX_TEXTS];
        private final int[] lengths = new int[MAX_TEXTS];
        private final int[] verbs = new int[ALL_STATEMENTS];
        private final int[] objects = new int[ALL_STATEMENTS];
        private final int[] terms = new int[ALL_STATEMENTS];
        private final boolean[] negated = new boolean[ALL_STATEMENTS * MAX_TERMS];
        private final int[] words = new int[ALL_STATEMENTS * MAX_TERMS];
        private final int[] relations = new int[ALL_STATEMENTS * MAX_TERMS];
        private final int[] values = new int[ALL_STATEMENTS * MAX_TERMS];
        private final int[] asked = new int[ALL_WORDS];
        private int texts = 0;
        private int faultKind = 0;
        private int faultPlace = NONE;

        /** Reads the TAPE into the next text's rows, which count only without a FAULT. */
        int tell(int from, Tape tape) {
            faultKind = 0;
            faultPlace = NONE;
            begins[texts] = from;
            lengths[texts] = 0;
            readText(tape);
            tape.size = 0;
            if (faultKind != 0) {
                return -1 - faultKind;
            }
            texts++;
            return lengths[texts - 1];
        }

        private void readText(Tape tape) {
            int wanted = WANT_STATEMENT;
            tape.rewind();
            for (int i = 0; i < Tape.MAX_BYTES && !tape.isEnd() && wanted != WANT_NOTHING; i++) {
                wanted = take(tape, wanted);
                if (wanted != WANT_NOTHING) {
                    tape.next();
                }
            }
            if (wanted != WANT_NOTHING && wanted != WANT_STATEMENT) {
                refuse(tape, 1);
            }
        }

        /** Takes the TOKEN at hand as what is wanted and answers what is wanted behind it. */
        private int take(Tape tape, int wanted) {
            switch (wanted) {
                case WANT_STATEMENT:
                    return takeVerb(tape);
                case WANT_DEED:
                    return takeObject(tape, tape.wordIn(DEEDS));
                case WANT_AMOUNT:
                    return takeObject(tape, tape.number());
                case WANT_IF:
                    return tape.isWord("if") ? WANT_TERM : refuse(tape, 1);
                case WANT_TERM:
                    return takeTerm(tape);
                case WANT_WORD:
                    return takeWord(tape, tape.wordIn(WORDS));
                case WANT_RELATION:
                    return takeRelation(tape);
                case WANT_VALUE:
                    return takeValue(tape);
                default:
                    return takeJoint(tape);
            }
        }

        private int takeVerb(Tape tape) {
            int verb = tape.wordIn(VERBS);
            if (verb == NONE) {
                return refuse(tape, 1);
            }
            if (lengths[texts] >= MAX_STATEMENTS) {
                return refuse(tape, 2);
            }
            lengths[texts]++;
            verbs[statementAtHand()] = verb;
            terms[statementAtHand()] = 0;
            return verb == BAR ? WANT_DEED : WANT_AMOUNT;
        }

        private int takeObject(Tape tape, int object) {
            if (object == NONE) {
                return refuse(tape, 1);
            }
            objects[statementAtHand()] = object;
            return WANT_IF;
        }

        private int takeTerm(Tape tape) {
            boolean not = tape.isWord("not");
            int word = tape.wordIn(WORDS);
            if (!not && word == NONE) {
                return refuse(tape, 1);
            }
            if (terms[statementAtHand()] >= MAX_TERMS) {
                return refuse(tape, 2);
            }
            terms[statementAtHand()]++;
            negated[termAtHand()] = not;
            return not ? WANT_WORD : takeWord(tape, word);
        }

        private int takeWord(Tape tape, int word) {
            if (word == NONE) {
                return refuse(tape, 1);
            }
            words[termAtHand()] = word;
            return WANT_RELATION;
        }

        private int takeRelation(Tape tape) {
            int sign = tape.sign();
            if (!within(sign, LESS, MORE)) {
                return refuse(tape, 1);
            }
            relations[termAtHand()] = sign;
            return WANT_VALUE;
        }

        private int takeValue(Tape tape) {
            int value = tape.number();
            if (value == NONE) {
                return refuse(tape, 1);
            }
            values[termAtHand()] = value;
            return WANT_JOINT;
        }

        private int takeJoint(Tape tape) {
            if (tape.isWord("and")) {
                return WANT_TERM;
            }
            return tape.sign() == SEMICOLON ? WANT_STATEMENT : refuse(tape, 1);
        }

        private int statementAtHand() {
            return texts * MAX_STATEMENTS + lengths[texts] - 1;
        }

        private int termAtHand() {
            return statementAtHand() * MAX_TERMS + terms[statementAtHand()] - 1;
        }

        private int refuse(Tape tape, int kind) {
            faultKind = kind;
            faultPlace = tape.tokenFrom;
            return WANT_NOTHING;
        }

        void askOfDay(Sky sky) {
            for (int i = 0; i < ALL_WORDS; i++) {
                asked[i] = 0;
            }
            asked[SEASON] = sky.season();
            asked[DAY] = sky.today;
            asked[SNOW] = sky.now(Sky.SNOW);
            asked[WATER] = sky.now(Sky.WATER);
            asked[DRY] = sky.now(Sky.DRY);
        }

        void askOfCell(Land land, int cell) {
            asked[CELL] = cell;
            asked[HEIGHT] = land.height[cell];
            asked[FAR] = land.far(cell);
            asked[SLASH] = land.slash[cell];
        }

        /** The first STATEMENT that bars what is asked; or NONE. */
        int barring(int today, int deed) {
            int text = textOn(today);
            int many = text == NONE ? 0 : lengths[text];
            for (int i = 0; i < many; i++) {
                int statement = text * MAX_STATEMENTS + i;
                if (verbs[statement] == BAR && objects[statement] == deed && holds(statement)) {
                    return i;
                }
            }
            return NONE;
        }

        /** PAY, CREDIT or RENT for what is asked. */
        int numberOn(int today, int verb) {
            int text = textOn(today);
            int many = text == NONE ? 0 : lengths[text];
            for (int i = many - 1; i >= 0; i--) {
                int statement = text * MAX_STATEMENTS + i;
                if (verbs[statement] == verb && holds(statement)) {
                    return objects[statement];
                }
            }
            return within(verb, PAY, RENT) ? WITHOUT[verb] : NONE;
        }

        private int textOn(int today) {
            int latest = NONE;
            for (int i = 0; i < texts; i++) {
                if (begins[i] <= today && (latest == NONE || begins[i] >= begins[latest])) {
                    latest = i;
                }
            }
            return latest;
        }

        private boolean holds(int statement) {
            for (int i = 0; i < terms[statement]; i++) {
                if (!termHolds(statement * MAX_TERMS + i)) {
                    return false;
                }
            }
            return true;
        }

        private boolean termHolds(int term) {
            return compares(asked[words[term]], relations[term], values[term]) != negated[term];
        }

        private static boolean compares(int value, int relation, int other) {
            switch (relation) {
                case LESS:
                    return value < other;
                case ALIKE:
                    return value == other;
                default:
                    return value > other;
            }
        }
    }

    /** A crew and its account. */
    private static final class Crew {
        private final int brand;
        private int earned = 0;
        private int owes = 0;
        private int paid = 0;
        private boolean left = false;

        Crew(int brand) {
            this.brand = brand;
        }

        void closeMonth(int rent) {
            owes += rent;
            int goesToDebt = Math.min(earned, owes);
            owes -= goesToDebt;
            paid += earned - goesToDebt;
            earned = 0;
        }

        int settleForGood() {
            int gets = earned - owes;
            earned = 0;
            owes = Math.max(0, -gets);
            paid += Math.max(0, gets);
            left = true;
            return gets;
        }

        int told(int what) {
            switch (what) {
                case 0:
                    return brand;
                case 1:
                    return earned;
                case 2:
                    return owes;
                case 3:
                    return paid;
                case 4:
                    return left ? 1 : 0;
                default:
                    return NONE;
            }
        }
    }

    /** ORDERS, and how a LOG is sawn for them. */
    private static final class SawMill {
        private static final int MAX_ORDERS = 30;
        private static final int NO_BOARD = -2;

        private final int[] thick = new int[MAX_ORDERS];
        private final int[] units = new int[MAX_ORDERS];
        private final int[] lacks = new int[MAX_ORDERS];
        private final int[] prices = new int[MAX_ORDERS];
        private final int[] ship = new int[MAX_ORDERS];
        private final int[] metDay = new int[MAX_ORDERS];
        private int many = 0;
        private int stock = 0;
        private final int[] sums = new int[MAX_WIDE + 1];
        private final int[] picks = new int[MAX_WIDE + 1];
        /** The ORDER whose board begins at a place as planned; or NO_BOARD. */
        private final int[] begun = new int[MAX_WIDE + 1];

        int add(int thickness, int leastUnits, int boards, int price, int shipDay) {
            thick[many] = thickness;
            units[many] = leastUnits;
            lacks[many] = boards;
            prices[many] = price;
            ship[many] = shipDay;
            metDay[many] = NONE;
            many++;
            return many - 1;
        }

        /** Sets sums[0] and what begins at each place. */
        void plan(Log log, int today) {
            int wide = Math.min(log.wide, MAX_WIDE);
            sums[wide] = 0;
            for (int place = wide - 1; place >= 0; place--) {
                weigh(log, place, wide, today);
            }
            int next = 0;
            for (int place = 0; place < wide; place++) {
                begun[place] = NO_BOARD;
                if (place == next) {
                    begun[place] = picks[place];
                    next = picks[place] == NO_BOARD
                            ? place + 1 : behind(place, picks[place], wide);
                }
            }
        }

        private void weigh(Log log, int place, int wide, int today) {
            sums[place] = NONE;
            picks[place] = NO_BOARD;
            for (int i = 0; i < many; i++) {
                if (isOpen(i, log.units, today) && fits(i, place, wide, log.fault)) {
                    int sum = prices[i] + sums[behind(place, i, wide)];
                    if (sum > sums[place]) {
                        sums[place] = sum;
                        picks[place] = i;
                    }
                }
            }
            if (sums[place + 1] > sums[place]) {
                sums[place] = sums[place + 1];
                picks[place] = NO_BOARD;
            }
        }

        private boolean isOpen(int order, int logUnits, int today) {
            return units[order] <= logUnits && lacks[order] > 0 && ship[order] >= today;
        }

        private boolean fits(int order, int place, int wide, int fault) {
            int end = place + thick[order];
            return end <= wide && (fault < place || fault >= end);
        }

        private int behind(int place, int order, int wide) {
            return Math.min(wide, place + thick[order] + 1);
        }

        /** Hands out the boards as planned and answers how many. */
        int deliver(int wide, int today) {
            int boards = 0;
            for (int place = 0; place < wide && place < MAX_WIDE; place++) {
                if (within(begun[place], 0, many - 1)) {
                    boards++;
                    handOver(begun[place], today);
                }
            }
            return boards;
        }

        private void handOver(int order, int today) {
            if (lacks[order] == 0) {
                stock++;
                return;
            }
            lacks[order]--;
            if (lacks[order] == 0) {
                metDay[order] = today;
            }
        }
    }

    /** SPURS for four SEASONS, and cuts for FORTY YEARS. */
    private static final class Plans {
        private static final int SEASONS = 4;
        private static final int MAX_SPURS = 9;
        private static final int SETS = 1 << MAX_SPURS;
        /** Above every sum there can be, and far from where sums of it would wrap around. */
        private static final int TOO_DEAR = 100000000;
        private static final int PERIODS = 8;
        private static final int MAX_AREAS = 12;
        private static final int STATES =
                (MAX_AREAS + 1) * (MAX_AREAS + 2) * (MAX_AREAS + 3) / 6;

        private final int[] spurCells = new int[MAX_SPURS];
        private final int[] spurIron = new int[MAX_SPURS];
        private final int[] spurCost = new int[MAX_SPURS];
        private int spurs = 0;
        private final int[] reached = new int[SEASONS];
        private final int[] setCells = new int[SETS];
        private final int[] setIron = new int[SETS];
        private final int[] setCost = new int[SETS];
        /** What a set in a SEASON and the best behind it cost, without laying that set. */
        private final int[][] from = new int[SEASONS][SETS];
        private final int[] ahead = new int[SETS];
        private final int[] chosen = new int[SEASONS];

        private final int[] start = new int[4];
        /** The greatest sum of yields from a PERIOD on; NONE where the rest can't be. */
        private final int[][] yields = new int[PERIODS + 1][STATES];
        private int cut3 = 0;
        private int cut2 = 0;
        private final int[] cuts = new int[2 * PERIODS];
        private boolean cutsTold = false;

        int addSpur(int cells, int iron, int cost) {
            spurCells[spurs] = cells;
            spurIron[spurs] = iron;
            spurCost[spurs] = cost;
            spurs++;
            return spurs - 1;
        }

        /** Sets the chosen sets and answers the least sum. */
        int planRails(int haul, int ironStored) {
            addUpSets();
            for (int season = SEASONS - 1; season >= 0; season--) {
                weighSeason(season, haul, ironStored);
                lookAhead(season);
            }
            int before = 0;
            for (int season = 0; season < SEASONS; season++) {
                chosen[season] = firstBest(season, before);
                before = chosen[season];
            }
            return costBehind(0, 0, chosen[0]);
        }

        private void addUpSets() {
            for (int i = 0; i < spurs; i++) {
                int half = 1 << i;
                for (int set = 0; set < half; set++) {
                    setCells[set + half] = setCells[set] | spurCells[i];
                    setIron[set + half] = setIron[set] + spurIron[i];
                    setCost[set + half] = setCost[set] + spurCost[i];
                }
            }
        }

        private void weighSeason(int season, int haul, int ironStored) {
            for (int set = 0; set < 1 << spurs; set++) {
                int lacking = Integer.bitCount(reached[season] & ~setCells[set]);
                int behind = season == SEASONS - 1 ? 0 : ahead[set];
                from[season][set] = setIron[set] > ironStored ? TOO_DEAR : haul * lacking + behind;
            }
        }

        /**
         * What the best from a SEASON on costs behind each set of the SEASON ahead of it. A SPUR
         * costs by itself, so the sets need not be paired: one SPUR is settled at a time.
         */
        private void lookAhead(int season) {
            int sets = 1 << spurs;
            System.arraycopy(from[season], 0, ahead, 0, sets);
            for (int i = 0; i < spurs; i++) {
                int spur = 1 << i;
                for (int set = 0; set < sets; set++) {
                    if ((set & spur) == 0) {
                        int without = ahead[set];
                        int with = ahead[set | spur];
                        ahead[set] = Math.min(without, with + spurCost[i]);
                        ahead[set | spur] = Math.min(without, with);
                    }
                }
            }
        }

        private int firstBest(int season, int before) {
            int first = 0;
            for (int set = 1; set < 1 << spurs; set++) {
                if (costBehind(season, before, set) < costBehind(season, before, first)) {
                    first = set;
                }
            }
            return first;
        }

        private int costBehind(int season, int before, int set) {
            return from[season][set] + setCost[set & ~before];
        }

        void startCuts(int a0, int a1, int a2, int a3) {
            start[0] = a0;
            start[1] = a1;
            start[2] = a2;
            start[3] = a3;
        }

        /** Sets the cuts and answers the greatest sum of yields; -2: it can't be. */
        int planCuts(int least, int greatest, int kept) {
            int all = start[0] + start[1] + start[2] + start[3];
            for (int period = PERIODS; period >= 0; period--) {
                weighPeriod(period, all, least, greatest, kept);
            }
            int sum = yields[0][state(start[0], start[1], start[2])];
            if (sum == NONE) {
                return -2;
            }
            keepCuts(all, least, greatest);
            return sum;
        }

        /** States are numbered without gaps, those of fewer areas ahead, to keep the rows short. */
        private static int state(int b0, int b1, int b2) {
            int belowTwo = b0 + b1;
            int belowThree = belowTwo + b2;
            return belowThree * (belowThree + 1) * (belowThree + 2) / 6
                    + belowTwo * (belowTwo + 1) / 2 + b0;
        }

        private void weighPeriod(int period, int all, int least, int greatest, int kept) {
            for (int b0 = 0; b0 <= all; b0++) {
                for (int b1 = 0; b0 + b1 <= all; b1++) {
                    for (int b2 = 0; b0 + b1 + b2 <= all; b2++) {
                        int now = state(b0, b1, b2);
                        if (period == PERIODS) {
                            yields[period][now] = all - b0 - b1 - b2 >= kept ? 0 : NONE;
                        } else if (canBe(period, b0, b1, b2)) {
                            yields[period][now] =
                                    bestCut(period, b0, b1, b2, all, least, greatest);
                        }
                    }
                }
            }
        }

        /** Early PERIODS still have areas of the start in their CLASSES: others need no sum. */
        private boolean canBe(int period, int b0, int b1, int b2) {
            return (period > 2 || b2 == start[2 - period])
                    && (period > 1 || b1 == start[1 - period])
                    && (period > 0 || b0 == start[0]);
        }

        /** Sets the first of the best cuts in a state and answers its sum, or NONE. */
        private int bestCut(int period, int b0, int b1, int b2, int all, int least, int greatest) {
            int b3 = all - b0 - b1 - b2;
            int best = NONE;
            for (int three = 0; three <= b3 && 5 * three <= greatest; three++) {
                for (int two = 0; two <= b2; two++) {
                    int gained = 5 * three + 2 * two;
                    int rest = yields[period + 1][state(three + two, b0, b1)];
                    if (within(gained, least, greatest) && rest != NONE && gained + rest > best) {
                        best = gained + rest;
                        cut3 = three;
                        cut2 = two;
                    }
                }
            }
            return best;
        }

        private void keepCuts(int all, int least, int greatest) {
            int b0 = start[0];
            int b1 = start[1];
            int b2 = start[2];
            for (int period = 0; period < PERIODS; period++) {
                bestCut(period, b0, b1, b2, all, least, greatest);
                cuts[2 * period] = cut3;
                cuts[2 * period + 1] = cut2;
                b2 = b1;
                b1 = b0;
                b0 = cut3 + cut2;
            }
            cutsTold = true;
        }
    }

    /** Rows of CRUISES. Their numbers are kept in eighths, in which all answers are whole. */
    private static final class Cruises {
        private static final int ROWS = 4;
        private static final int MAX_PLACES = 40;
        private static final int HOLE = -32768;
        private static final int MAX_FLOAT = 1000000;

        private final int[] lengths = {NONE, NONE, NONE, NONE};
        private final boolean[] floats = new boolean[ROWS];
        private final int[] eighths = new int[ROWS * MAX_PLACES];
        private final boolean[] holes = new boolean[ROWS * MAX_PLACES];

        void begin(int r, boolean isFloats, int n) {
            lengths[r] = n;
            floats[r] = isFloats;
            for (int i = 0; i < MAX_PLACES; i++) {
                eighths[r * MAX_PLACES + i] = 0;
                holes[r * MAX_PLACES + i] = false;
            }
        }

        boolean hasRow(int r) {
            return within(r, 0, ROWS - 1) && lengths[r] != NONE;
        }

        boolean hasPlace(int r, int place) {
            return hasRow(r) && within(place, 0, lengths[r] - 1);
        }

        boolean put(int r, int place, int v) {
            if (floats[r] && !within(v, -MAX_FLOAT, MAX_FLOAT)) {
                return false;
            }
            int kept = floats[r] ? v : (short) v;
            int at = r * MAX_PLACES + place;
            holes[at] = kept == HOLE;
            eighths[at] = floats[r] ? 2 * kept : 8 * kept;
            return true;
        }

        /** Whether any place is no hole: then each place has a number. */
        boolean hasNumber(int r) {
            return nextFrom(r, 0) != NONE;
        }

        int eighthsAt(int r, int place) {
            int below = lastUpTo(r, place);
            int above = nextFrom(r, place);
            if (below == NONE) {
                return above == NONE ? 0 : eighths[above];
            }
            return above == NONE ? eighths[below] : (eighths[below] + eighths[above]) / 2;
        }

        private int lastUpTo(int r, int place) {
            for (int i = place; i >= 0; i--) {
                if (!holes[r * MAX_PLACES + i]) {
                    return r * MAX_PLACES + i;
                }
            }
            return NONE;
        }

        private int nextFrom(int r, int place) {
            for (int i = place; i < lengths[r]; i++) {
                if (!holes[r * MAX_PLACES + i]) {
                    return r * MAX_PLACES + i;
                }
            }
            return NONE;
        }

        int sumOf(int r) {
            int sum = 0;
            for (int i = 0; i < lengths[r]; i++) {
                sum += eighthsAt(r, i);
            }
            return sum;
        }

        int spreadOf(int r) {
            int least = eighthsAt(r, 0);
            int greatest = least;
            for (int i = 1; i < lengths[r]; i++) {
                int value = eighthsAt(r, i);
                least = Math.min(least, value);
                greatest = Math.max(greatest, value);
            }
            return greatest - least;
        }
    }
}
