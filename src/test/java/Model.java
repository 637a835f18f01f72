import java.util.ArrayList;
import java.util.Arrays;
import java.util.HashMap;
import java.util.HashSet;
import java.util.List;
import java.util.Map;
import java.util.NoSuchElementException;
import java.util.Set;
import java.util.TreeMap;
import java.util.regex.Matcher;
import java.util.regex.Pattern;

/**
 * A second valley, written from the document alone and in the plainest way, without a thought of
 * speed or room: ModelTest holds the class against it. Its methods are those of the face.
 */
final class Model {
    private static final String[] WORDS = {"cell", "height", "sort", "class", "season", "day", "snow", "water", "dry",
        "far", "slash", "crew", "way"};

    private static final class Stick {
        int number;
        int cell;
        int fell;
        int sort;
        int units;
        int wide;
        int day;
        int brand;
        int came;
        int state;
        List<int[]> changes = new ArrayList<>();
        int[] register;
        long sum;
        long byPlace;

        int volume() {
            return units * wide / 8 + 1;
        }

        int scale(int rule) {
            int less = wide > 4 ? wide - 4 : 0;
            return rule == 0 ? less * less * units / 16 : wide * wide * units / 24;
        }

        int fault() {
            int hidden = (number * 7 + fell) % (wide + 3);
            return hidden >= wide ? -1 : hidden;
        }
    }

    private record Term(boolean not, String word, char rel, int number) {
    }

    private record Statement(String verb, String what, int number, List<Term> terms) {
    }

    private record Text(int from, List<Statement> statements) {
    }

    private record Best(int sum, List<Integer> row) {
    }

    private final int[] height = new int[64];
    private final int[] slash = new int[64];
    private final int[][][] stems = new int[64][4][4];
    private final int[] grow = {20, 20, 20, 20};
    private final int[] taper = {1, 1, 1, 1};
    private final int[] price = {0, 0, 10, 10, 10, 10, 10};
    private final TreeMap<Integer, int[]> weather = new TreeMap<>();
    private int tellings;
    private int mill;
    private int today;
    private final List<Stick> logs = new ArrayList<>();
    private final List<int[]> ways = new ArrayList<>();
    private final Set<Integer> laid = new HashSet<>();
    private final Map<Integer, Integer> dams = new HashMap<>();
    private int iron;
    private String tape = "";
    private final List<Text> texts = new ArrayList<>();
    private int place = -1;
    private final List<int[]> crews = new ArrayList<>();
    private int lease;
    private final List<int[]> doubles = new ArrayList<>();
    private final List<int[]> orders = new ArrayList<>();
    private int stock;
    private final List<int[]> spurs = new ArrayList<>();
    private final int[] asked = new int[4];
    private List<Integer> cuts;
    private final double[][] rows = new double[4][];
    private final boolean[] floats = new boolean[4];

    private static boolean in(int v, int from, int to) {
        return from <= v && v <= to;
    }

    private static int x(int cell) {
        return cell % 8;
    }

    private static int y(int cell) {
        return cell / 8;
    }

    private int far(int cell) {
        return Math.abs(x(cell) - x(mill)) + Math.abs(y(cell) - y(mill));
    }

    // ---- land ----

    public boolean cell(int cell, int h) {
        if (in(cell, 0, 63) && in(h, 0, 40)) {
            height[cell] = h;
            return true;
        }
        return false;
    }

    public boolean stand(int cell, int sort, int c, int many) {
        if (in(cell, 0, 63) && in(sort, 0, 3) && in(c, 0, 3) && in(many, 0, 200)) {
            stems[cell][sort][c] = many;
            return true;
        }
        return false;
    }

    public boolean sort(int sort, int g, int t) {
        if (in(sort, 0, 3) && in(g, 0, 100) && in(t, 1, 3)) {
            grow[sort] = g;
            taper[sort] = t;
            return true;
        }
        return false;
    }

    public boolean mill(int cell) {
        if (in(cell, 0, 63) && logs.isEmpty()) {
            mill = cell;
            return true;
        }
        return false;
    }

    public boolean weather(int day, int snow, int water, int dry) {
        if (in(day, today, 3999) && in(snow, 0, 9) && in(water, 0, 9) && in(dry, 0, 9) && tellings < 200) {
            tellings++;
            weather.put(day, new int[] {snow, water, dry});
            return true;
        }
        return false;
    }

    public int weatherOf(int day, int what) {
        if (!in(day, 0, 3999) || !in(what, 0, 2)) {
            return -1;
        }
        Map.Entry<Integer, int[]> told = weather.floorEntry(day);
        return told == null ? new int[] {0, 5, 3}[what] : told.getValue()[what];
    }

    private int all(int cell) {
        return Arrays.stream(stems[cell]).flatMapToInt(Arrays::stream).sum();
    }

    public int of(int cell, int what) {
        if (!in(cell, 0, 63) || !in(what, 0, 20)) {
            return -1;
        }
        return switch (what) {
            case 0 -> height[cell];
            case 1 -> slash[cell];
            case 2 -> (int) logs.stream().filter(l -> l.state == 0 && l.cell == cell).count();
            case 3 -> far(cell);
            case 4 -> all(cell);
            default -> stems[cell][(what - 5) / 4][(what - 5) % 4];
        };
    }

    // ---- stems and logs ----

    public boolean price(int units, int v) {
        if (in(units, 2, 6) && in(v, 0, 99)) {
            price[units] = v;
            return true;
        }
        return false;
    }

    private int wide(int sort, int c, int after) {
        int wide = 10 + 7 * c + sort;
        for (int unit = 0; unit < after; unit++) {
            wide = Math.max(1, wide - taper[sort]);
        }
        return wide;
    }

    private Best buckFrom(int sort, int c, int at) {
        int length = 4 + 2 * c;
        if (length - at <= 1) {
            return new Best(0, List.of());
        }
        Best best = null;
        for (int units = 2; units <= 6 && at + units <= length; units++) {
            Best rest = buckFrom(sort, c, at + units);
            int sum = price[units] * wide(sort, c, at + units) + rest.sum;
            if (best == null || sum > best.sum) {
                List<Integer> row = new ArrayList<>(List.of(units));
                row.addAll(rest.row);
                best = new Best(sum, row);
            }
        }
        return best;
    }

    public int buck(int sort, int c) {
        return in(sort, 0, 3) && in(c, 0, 3) ? buckFrom(sort, c, 0).sum : -1;
    }

    public int piece(int sort, int c, int i) {
        if (!in(sort, 0, 3) || !in(c, 0, 3)) {
            return -1;
        }
        List<Integer> row = buckFrom(sort, c, 0).row;
        return in(i, 0, row.size() - 1) ? row.get(i) : -1;
    }

    private List<Integer> pieces(int c, int row) {
        List<Integer> all = new ArrayList<>();
        if (row <= 0) {
            return null;
        }
        int sum = 0;
        for (char figure : Integer.toString(row).toCharArray()) {
            if (figure < '2' || figure > '6') {
                return null;
            }
            all.add(figure - '0');
            sum += figure - '0';
        }
        return sum > 4 + 2 * c ? null : all;
    }

    public int worth(int sort, int c, int row) {
        if (!in(sort, 0, 3) || !in(c, 0, 3) || pieces(c, row) == null) {
            return -1;
        }
        int at = 0;
        int sum = 0;
        for (int units : pieces(c, row)) {
            at += units;
            sum += price[units] * wide(sort, c, at);
        }
        return sum;
    }

    public int fall(int crew, int cell, int sort, int c, int row) {
        if (!in(crew, 0, crews.size() - 1) || !in(cell, 0, 63) || !in(sort, 0, 3) || !in(c, 0, 3)
                || crews.get(crew)[4] == 1) {
            return -1;
        }
        if (stems[cell][sort][c] == 0) {
            return -2;
        }
        Map<String, Integer> asks = ofCut(crew, cell, sort, c);
        if (bar("cut", asks) != -1) {
            return -3;
        }
        List<Integer> cut = row == 0 ? buckFrom(sort, c, 0).row : pieces(c, row);
        if (cut == null) {
            return -4;
        }
        if (logs.size() + cut.size() > 300) {
            return -5;
        }
        int pay = number("pay", 2, asks);
        int at = 0;
        int scale = 0;
        for (int units : cut) {
            at += units;
            scale += come(crew, cell, sort, units, wide(sort, c, at)).scale(lease);
        }
        crews.get(crew)[1] += pay * scale;
        stems[cell][sort][c]--;
        slash[cell] += 3;
        return cut.size();
    }

    private Stick come(int crew, int cell, int sort, int units, int wide) {
        Stick log = new Stick();
        log.number = logs.size();
        log.cell = cell;
        log.fell = cell;
        log.sort = sort;
        log.units = units;
        log.wide = wide;
        log.day = today;
        log.came = today;
        log.brand = crews.get(crew)[0];
        log.register = new int[] {cell, sort, units, wide, today};
        log.sum = sum(log.register, false);
        log.byPlace = sum(log.register, true);
        logs.add(log);
        change(log, 0);
        return log;
    }

    private void change(Stick log, int state) {
        log.state = state;
        log.changes.add(new int[] {state, today, today + far(log.cell) / 4});
    }

    private boolean isLog(int log) {
        return in(log, 0, logs.size() - 1);
    }

    public int log(int log, int what) {
        if (!isLog(log) || !in(what, 0, 8)) {
            return -1;
        }
        Stick l = logs.get(log);
        return new int[] {l.cell, l.sort, l.units, l.wide, l.day, l.brand, l.state, l.volume(), l.fault()}[what];
    }

    // ---- ways and days ----

    public int way(int kind, int from, int to) {
        if (!in(kind, 0, 4) || !in(from, 0, 63) || !in(to, 0, 63) || ways.size() == 40) {
            return -1;
        }
        if (Math.abs(x(from) - x(to)) + Math.abs(y(from) - y(to)) != 1) {
            return -1;
        }
        ways.add(new int[] {kind, from, to});
        return ways.size() - 1;
    }

    public int iron(int n) {
        if (!in(n, 0, 500) || iron + n > 5000) {
            return -1;
        }
        iron += n;
        return iron;
    }

    public boolean lay(int way, boolean is) {
        if (!in(way, 0, ways.size() - 1) || ways.get(way)[0] != 1 || laid.contains(way) == is || is && iron < 10) {
            return false;
        }
        if (is) {
            iron -= 10;
            laid.add(way);
        } else {
            iron += 10;
            laid.remove(way);
        }
        return true;
    }

    public boolean dam(int way) {
        if (!in(way, 0, ways.size() - 1) || ways.get(way)[0] != 4 || dams.getOrDefault(way, -1) == today) {
            return false;
        }
        dams.put(way, today);
        return true;
    }

    public int carry(int way) {
        if (!in(way, 0, ways.size() - 1)) {
            return -1;
        }
        if (bar("carry", ofWay(way)) != -1) {
            return 0;
        }
        int[] w = ways.get(way);
        int falls = height[w[1]] - height[w[2]];
        int snow = weatherOf(today, 0);
        int water = weatherOf(today, 1);
        switch (w[0]) {
            case 0:
                int left = 30 - (falls < 0 ? 3 * -falls : 0) - snow;
                return snow > 6 || left < 0 ? 0 : left;
            case 1:
                return laid.contains(way) ? 60 : 0;
            case 2:
                return falls > 0 ? 8 * water : 0;
            case 3:
                return snow >= 3 ? 40 : 0;
            default:
                int flows = (today / 25 % 4 == 1 ? 12 : 3) * water;
                return falls <= 0 ? 0 : flows + (dams.getOrDefault(way, -1) == today ? 40 : 0);
        }
    }

    public int day() {
        if (today == 3999) {
            return -1;
        }
        int carried = 0;
        for (int way = 0; way < ways.size(); way++) {
            carried += over(way);
        }
        for (Stick log : logs) {
            if (log.state == 0 && log.cell == mill) {
                change(log, 1);
            }
        }
        if ((today + 1) % 25 == 0) {
            month();
        }
        if ((today + 1) % 100 == 0) {
            year();
        }
        today++;
        return carried;
    }

    private int over(int way) {
        int[] w = ways.get(way);
        int room = carry(way);
        int carried = 0;
        int volume = 0;
        for (Stick log : logs) {
            if (log.state == 0 && log.cell == w[1] && log.came < today && volume + log.volume() <= room) {
                volume += log.volume();
                carried++;
                log.cell = w[2];
                log.came = today;
                if (w[0] == 4 && weatherOf(today, 1) == 9 && log.wide > 30) {
                    change(log, 4);
                } else if (log.cell == mill) {
                    change(log, 1);
                }
            }
        }
        return carried;
    }

    private void month() {
        for (int crew = 0; crew < crews.size(); crew++) {
            int[] c = crews.get(crew);
            if (c[4] == 0) {
                c[2] += due(crew, 2);
                while (c[1] > 0 && c[2] > 0) {
                    int pays = Math.min(c[1], c[2]);
                    c[1] -= pays;
                    c[2] -= pays;
                }
                c[3] += c[1];
                c[1] = 0;
            }
        }
    }

    private void year() {
        for (int cell = 0; cell < 64; cell++) {
            for (int sort = 0; sort < 4; sort++) {
                for (int c = 2; c >= 0; c--) {
                    int[] s = stems[cell][sort];
                    for (int go = s[c] * grow[sort] / 100; go > 0 && s[c + 1] < 200; go--) {
                        s[c]--;
                        s[c + 1]++;
                    }
                }
            }
            slash[cell] = slash[cell] / 2;
        }
    }

    // ---- law ----

    public int feed(int a, int b, int c, int d, int e) {
        if (tape.length() + 20 > 300) {
            return -1;
        }
        StringBuilder s = new StringBuilder(tape);
        for (int number : new int[] {a, b, c, d, e}) {
            for (int shift = 24; shift >= 0; shift -= 8) {
                s.append((char) (number >> shift & 255));
            }
        }
        tape = s.toString();
        return tape.length();
    }

    public int end(int n) {
        if (n < 0 || n > tape.length()) {
            return -1;
        }
        tape = tape.substring(0, n);
        return n;
    }

    public int law(int from) {
        if (!in(from, 0, 3999) || texts.size() == 20) {
            return -1;
        }
        int[] judged = judged(tape);
        place = judged[1];
        if (judged[0] >= 0) {
            texts.add(new Text(from, statements(tape)));
        }
        tape = "";
        return judged[0];
    }

    public int place() {
        return place;
    }

    private static final Pattern TOKENS = Pattern.compile("[a-z]+|[0-9]+|[^ \n]");
    private static final Pattern GRAMMAR = Pattern.compile("((bw|pd)in?xrd(an?xrd)*;)*");

    /** The answer of law() and of place(), by the kinds of the TOKENS as letters. */
    static int[] judged(String text) {
        List<Integer> places = new ArrayList<>();
        StringBuilder kinds = new StringBuilder();
        Matcher tokens = TOKENS.matcher(text);
        while (tokens.find()) {
            places.add(tokens.start());
            kinds.append(kindOf(tokens.group()));
        }
        int statements = 0;
        int terms = 0;
        for (int i = 0; i < kinds.length(); i++) {
            Matcher upTo = GRAMMAR.matcher(kinds.substring(0, i + 1));
            if (!upTo.matches() && !upTo.hitEnd()) {
                return new int[] {-2, places.get(i)};
            }
            char ahead = i == 0 ? ';' : kinds.charAt(i - 1);
            statements += ahead == ';' ? 1 : 0;
            terms = ahead == 'i' ? 1 : ahead == 'a' ? terms + 1 : terms;
            if (ahead == ';' && statements > 12 || ahead == 'a' && terms > 5) {
                return new int[] {-3, places.get(i)};
            }
        }
        boolean whole = GRAMMAR.matcher(kinds).matches();
        return whole ? new int[] {statements, -1} : new int[] {-2, text.length()};
    }

    private static char kindOf(String token) {
        if (token.matches("[0-9]+")) {
            return token.length() <= 4 ? 'd' : '?';
        }
        return switch (token) {
            case "bar" -> 'b';
            case "pay", "credit", "rent" -> 'p';
            case "cut", "carry", "fire" -> 'w';
            case "if" -> 'i';
            case "not" -> 'n';
            case "and" -> 'a';
            case "<", "=", ">" -> 'r';
            case ";" -> ';';
            default -> List.of(WORDS).contains(token) ? 'x' : '?';
        };
    }

    private static List<Statement> statements(String text) {
        List<Statement> all = new ArrayList<>();
        for (String one : text.split(";")) {
            List<String> tokens = TOKENS.matcher(one).results().map(m -> m.group()).toList();
            if (tokens.isEmpty()) {
                continue;
            }
            List<Term> terms = new ArrayList<>();
            for (int at = 3; at < tokens.size(); at += 4) {
                boolean not = tokens.get(at).equals("not");
                at += not ? 1 : 0;
                terms.add(new Term(not, tokens.get(at), tokens.get(at + 1).charAt(0),
                        Integer.parseInt(tokens.get(at + 2))));
            }
            boolean bar = tokens.get(0).equals("bar");
            all.add(new Statement(tokens.get(0), tokens.get(1), bar ? 0 : Integer.parseInt(tokens.get(1)), terms));
        }
        return all;
    }

    private List<Statement> inForce() {
        Text latest = new Text(-1, List.of());
        for (Text text : texts) {
            latest = text.from <= today && text.from >= latest.from ? text : latest;
        }
        return latest.statements;
    }

    private static boolean holds(Statement s, Map<String, Integer> asks) {
        return s.terms.stream().allMatch(t -> {
            int value = asks.getOrDefault(t.word, 0);
            boolean is = t.rel == '<' ? value < t.number : t.rel == '>' ? value > t.number : value == t.number;
            return is != t.not;
        });
    }

    private int bar(String what, Map<String, Integer> asks) {
        List<Statement> all = inForce();
        for (int i = 0; i < all.size(); i++) {
            if (all.get(i).verb.equals("bar") && all.get(i).what.equals(what) && holds(all.get(i), asks)) {
                return i;
            }
        }
        return -1;
    }

    private int number(String verb, int without, Map<String, Integer> asks) {
        int number = without;
        for (Statement s : inForce()) {
            number = s.verb.equals(verb) && holds(s, asks) ? s.number : number;
        }
        return number;
    }

    private Map<String, Integer> ofDay() {
        Map<String, Integer> asks = new HashMap<>();
        asks.put("season", today / 25 % 4);
        asks.put("day", today);
        asks.put("snow", weatherOf(today, 0));
        asks.put("water", weatherOf(today, 1));
        asks.put("dry", weatherOf(today, 2));
        return asks;
    }

    private Map<String, Integer> ofCell(int cell) {
        Map<String, Integer> asks = ofDay();
        asks.put("cell", cell);
        asks.put("height", height[cell]);
        asks.put("far", far(cell));
        asks.put("slash", slash[cell]);
        return asks;
    }

    private Map<String, Integer> ofCut(int crew, int cell, int sort, int c) {
        Map<String, Integer> asks = ofCell(cell);
        asks.put("sort", sort);
        asks.put("class", c);
        asks.put("crew", crew);
        return asks;
    }

    private Map<String, Integer> ofWay(int way) {
        Map<String, Integer> asks = ofCell(ways.get(way)[1]);
        asks.put("way", ways.get(way)[0]);
        return asks;
    }

    public int why(int crew, int cell, int sort, int c) {
        boolean such = in(crew, 0, crews.size() - 1) && in(cell, 0, 63) && in(sort, 0, 3) && in(c, 0, 3);
        return such ? bar("cut", ofCut(crew, cell, sort, c)) : -2;
    }

    public int whyWay(int way) {
        return in(way, 0, ways.size() - 1) ? bar("carry", ofWay(way)) : -2;
    }

    public int due(int crew, int what) {
        if (!in(crew, 0, crews.size() - 1) || !in(what, 0, 2)) {
            return -1;
        }
        Map<String, Integer> asks = ofDay();
        asks.put("crew", crew);
        return number(new String[] {"pay", "credit", "rent"}[what], new int[] {2, 50, 5}[what], asks);
    }

    // ---- crews and scalers ----

    public int crew(int brand) {
        if (!in(brand, 0, 9) || crews.size() == 20) {
            return -1;
        }
        crews.add(new int[] {brand, 0, 0, 0, 0});
        return crews.size() - 1;
    }

    public int shop(int crew, int v) {
        if (!in(crew, 0, crews.size() - 1) || crews.get(crew)[4] == 1 || !in(v, 1, 999)) {
            return -1;
        }
        int owes = crews.get(crew)[2] + v;
        if (owes > due(crew, 1)) {
            return -2;
        }
        crews.get(crew)[2] = owes;
        return owes;
    }

    public int leave(int crew) {
        if (!in(crew, 0, crews.size() - 1) || crews.get(crew)[4] == 1) {
            return -1000000;
        }
        int[] c = crews.get(crew);
        int gets = c[1] - c[2];
        c[3] += Math.max(gets, 0);
        c[2] = Math.max(-gets, 0);
        c[1] = 0;
        c[4] = 1;
        return gets;
    }

    public int crewOf(int crew, int what) {
        return in(crew, 0, crews.size() - 1) && in(what, 0, 4) ? crews.get(crew)[what] : -1;
    }

    public boolean lease(int rule) {
        if (in(rule, 0, 1)) {
            lease = rule;
            return true;
        }
        return false;
    }

    public int scale(int log, int rule) {
        return isLog(log) && in(rule, 0, 1) ? logs.get(log).scale(rule) : -1;
    }

    public boolean found(int scaler, int log, int v) {
        if (!in(scaler, 0, 4) || !isLog(log) || !in(v, 0, 999) || doubles.size() == 60) {
            return false;
        }
        doubles.add(new int[] {scaler, log, v});
        return true;
    }

    public int hand(int scaler, int what) {
        int[] off = doubles.stream().filter(d -> d[0] == scaler)
                .mapToInt(d -> d[2] - logs.get(d[1]).scale(lease)).toArray();
        if (off.length == 0 || !in(what, 0, 1)) {
            throw new NoSuchElementException();
        }
        Arrays.sort(off);
        return what == 1 ? off[off.length - 1] - off[0]
                : (int) Math.floor((double) Arrays.stream(off).sum() / off.length);
    }

    // ---- the mill ----

    public int order(int thick, int units, int boards, int cost, int ship) {
        if (!in(thick, 1, 12) || !in(units, 2, 6) || !in(boards, 1, 99) || !in(cost, 1, 99)
                || !in(ship, today, 3999) || orders.size() == 30) {
            return -1;
        }
        orders.add(new int[] {thick, units, boards, cost, ship, -1});
        return orders.size() - 1;
    }

    /** The best row from a place on: the ORDERS (30: the place is left), place by place. */
    private Best sawnFrom(Stick log, int place, Map<Integer, Best> known) {
        if (place >= log.wide) {
            return new Best(0, List.of());
        }
        if (known.containsKey(place)) {
            return known.get(place);
        }
        Best best = null;
        for (int o = 0; o <= 30; o++) {
            Best one = o == 30 ? with(30, 0, sawnFrom(log, place + 1, known)) : boardOf(log, place, o, known);
            if (one != null && (best == null || one.sum > best.sum)) {
                best = one;
            }
        }
        known.put(place, best);
        return best;
    }

    private static Best with(int first, int worth, Best rest) {
        List<Integer> row = new ArrayList<>(List.of(first));
        row.addAll(rest.row);
        return new Best(worth + rest.sum, row);
    }

    private Best boardOf(Stick log, int place, int o, Map<Integer, Best> known) {
        if (o >= orders.size()) {
            return null;
        }
        int[] order = orders.get(o);
        int end = place + order[0];
        boolean open = order[1] <= log.units && order[2] > 0 && order[4] >= today;
        boolean faulty = in(log.fault(), place, end - 1);
        return open && !faulty && end <= log.wide ? with(o, order[3], sawnFrom(log, end + 1, known)) : null;
    }

    private boolean inPond(int log) {
        return isLog(log) && logs.get(log).state == 1;
    }

    private Best sawn(int log) {
        return sawnFrom(logs.get(log), 0, new HashMap<>());
    }

    public int best(int log) {
        return inPond(log) ? sawn(log).sum : -1;
    }

    public int board(int log, int place) {
        if (!inPond(log) || !in(place, 0, logs.get(log).wide - 1)) {
            return -1;
        }
        int at = 0;
        for (int o : sawn(log).row) {
            if (at == place) {
                return o == 30 ? -2 : o;
            }
            at += o == 30 ? 1 : orders.get(o)[0] + 1;
        }
        return -2;
    }

    public int saw(int log) {
        if (!inPond(log)) {
            return -1;
        }
        int boards = 0;
        for (int o : sawn(log).row) {
            if (o < 30) {
                boards++;
                int[] order = orders.get(o);
                stock += order[2] == 0 ? 1 : 0;
                order[5] = order[2] == 1 ? today : order[5];
                order[2] = Math.max(0, order[2] - 1);
            }
        }
        change(logs.get(log), 2);
        return boards;
    }

    public int orderOf(int order, int what) {
        if (!in(order, 0, orders.size() - 1) || !in(what, 0, 2) || what == 2 && orders.get(order)[5] == -1) {
            throw new NoSuchElementException();
        }
        int[] o = orders.get(order);
        return what == 0 ? o[2] : what == 1 ? o[5] : o[4] - o[5];
    }

    // ---- fire ----

    public int fire(int cell, int wind, int steps) {
        if (!in(cell, 0, 63) || !in(wind, 0, 3) || !in(steps, 1, 20)) {
            return -1;
        }
        Set<Integer> burns = new HashSet<>(Set.of(cell));
        for (int step = 0; step < steps; step++) {
            Set<Integer> more = new HashSet<>();
            for (int from : burns) {
                for (int to = 0; to < 64; to++) {
                    if (kindles(from, to, wind)) {
                        more.add(to);
                    }
                }
            }
            burns.addAll(more);
        }
        for (int burnt : burns) {
            slash[burnt] = 0;
            for (int[] classes : stems[burnt]) {
                classes[0] = 0;
                classes[1] = 0;
                classes[2] /= 2;
                classes[3] /= 2;
            }
            for (Stick log : logs) {
                if (log.state == 0 && log.cell == burnt) {
                    change(log, 3);
                }
            }
        }
        return burns.size();
    }

    private boolean kindles(int from, int to, int wind) {
        int dx = x(to) - x(from);
        int dy = y(to) - y(from);
        if (Math.abs(dx) + Math.abs(dy) != 1 || all(to) + slash[to] == 0) {
            return false;
        }
        int along = switch (wind) {
            case 0 -> dx;
            case 1 -> -dx;
            case 2 -> dy;
            default -> -dy;
        };
        double fuel = slash[to] + all(to) / 10.0 + 5 * weatherOf(today, 2) + 8 * along;
        return fuel + (height[to] > height[from] ? 4 : 0) >= 20;
    }

    public int burn(int cell) {
        if (!in(cell, 0, 63)) {
            return -1;
        }
        if (bar("fire", ofCell(cell)) != -1) {
            return -2;
        }
        slash[cell] = 0;
        return weatherOf(today, 2) >= 7 ? fire(cell, 0, 3) : 0;
    }

    // ---- plans ----

    public int spur(int cells, int spurIron, int cost) {
        if (cells <= 0 || !in(spurIron, 1, 50) || !in(cost, 0, 999) || spurs.size() == 9) {
            return -1;
        }
        spurs.add(new int[] {cells, spurIron, cost});
        return spurs.size() - 1;
    }

    public boolean asked(int season, int cells) {
        if (in(season, 0, 3) && cells >= 0) {
            asked[season] = cells;
            return true;
        }
        return false;
    }

    private Best railsFrom(int season, int before, int haul, Map<Integer, Best> known) {
        if (season == 4) {
            return new Best(0, List.of());
        }
        int key = season * 512 + before;
        if (known.containsKey(key)) {
            return known.get(key);
        }
        Best best = null;
        for (int set = 0; set < 1 << spurs.size(); set++) {
            int need = 0;
            int cost = 0;
            int lacking = asked[season];
            for (int i = 0; i < spurs.size(); i++) {
                if ((set >> i & 1) == 1) {
                    need += spurs.get(i)[1];
                    lacking &= ~spurs.get(i)[0];
                    cost += (before >> i & 1) == 1 ? 0 : spurs.get(i)[2];
                }
            }
            if (need <= iron) {
                Best one = with(set, cost + haul * Integer.bitCount(lacking), railsFrom(season + 1, set, haul, known));
                best = best == null || one.sum < best.sum ? one : best;
            }
        }
        known.put(key, best);
        return best;
    }

    public int rails(int haul) {
        return in(haul, 0, 999) ? railsFrom(0, 0, haul, new HashMap<>()).sum : -1;
    }

    public int railsOf(int haul, int season) {
        return in(haul, 0, 999) && in(season, 0, 3)
                ? railsFrom(0, 0, haul, new HashMap<>()).row.get(season) : -1;
    }

    public int forty(int a0, int a1, int a2, int a3, int least, int greatest, int kept) {
        if (!in(a0, 0, 9) || !in(a1, 0, 9) || !in(a2, 0, 9) || !in(a3, 0, 9) || a0 + a1 + a2 + a3 > 12
                || !in(least, 0, 60) || !in(greatest, 0, 60) || !in(kept, 0, 12)) {
            return -1;
        }
        Best best = fortyFrom(List.of(0, a0, a1, a2, a3), new int[] {least, greatest, kept}, new HashMap<>());
        if (best == null) {
            return -2;
        }
        cuts = best.row;
        return best.sum;
    }

    private Best fortyFrom(List<Integer> s, int[] limits, Map<List<Integer>, Best> known) {
        if (s.get(0) == 8) {
            return s.get(4) >= limits[2] ? new Best(0, List.of()) : null;
        }
        if (known.containsKey(s)) {
            return known.get(s);
        }
        Best best = null;
        for (int three = 0; three <= s.get(4); three++) {
            for (int two = 0; two <= s.get(3); two++) {
                int gives = 5 * three + 2 * two;
                Best rest = in(gives, limits[0], limits[1]) ? fortyFrom(List.of(s.get(0) + 1, three + two, s.get(1),
                        s.get(2), s.get(3) - two + s.get(4) - three), limits, known) : null;
                if (rest != null && (best == null || gives + rest.sum > best.sum)) {
                    best = with(three, gives, with(two, 0, rest));
                }
            }
        }
        known.put(s, best);
        return best;
    }

    public int cutIn(int period, int what) {
        return cuts != null && in(period, 0, 7) && in(what, 0, 1) ? cuts.get(2 * period + what) : -1;
    }

    // ---- cruises ----

    public boolean row(int r, boolean isFloats, int n) {
        if (!in(r, 0, 3) || !in(n, 0, 40)) {
            return false;
        }
        rows[r] = new double[n];
        floats[r] = isFloats;
        return true;
    }

    private boolean hasPlace(int r, int place) {
        return in(r, 0, 3) && rows[r] != null && in(place, 0, rows[r].length - 1);
    }

    public boolean write(int r, int place, int v) {
        if (!hasPlace(r, place) || floats[r] && v != -32768 && !in(v, -1000000, 1000000)) {
            return false;
        }
        double number = floats[r] ? v / 4.0 : (short) v;
        boolean hole = floats[r] ? v == -32768 : (short) v == -32768;
        rows[r][place] = hole ? Double.NaN : number;
        return true;
    }

    private double numberAt(int r, int place) {
        double[] row = rows[r];
        if (!Double.isNaN(row[place])) {
            return row[place];
        }
        double sum = 0;
        int many = 0;
        for (int step : new int[] {-1, 1}) {
            int at = place;
            while (in(at, 0, row.length - 1) && Double.isNaN(row[at])) {
                at += step;
            }
            if (in(at, 0, row.length - 1)) {
                sum += row[at];
                many++;
            }
        }
        return sum / many;
    }

    public int each(int r, int place) {
        if (!hasPlace(r, place) || Double.isNaN(numberAt(r, place))) {
            throw new NoSuchElementException();
        }
        return (int) (8 * numberAt(r, place));
    }

    public int cruise(int r, int what) {
        if (!in(r, 0, 3) || rows[r] == null || !in(what, 0, 1)) {
            return -1;
        }
        double sum = 0;
        double least = Double.POSITIVE_INFINITY;
        double greatest = Double.NEGATIVE_INFINITY;
        for (int place = 0; place < rows[r].length; place++) {
            double number = numberAt(r, place);
            if (!Double.isNaN(number)) {
                sum += number;
                least = Math.min(least, number);
                greatest = Math.max(greatest, number);
            }
        }
        return least > greatest ? 0 : (int) (8 * (what == 0 ? sum : greatest - least));
    }

    // ---- what was known, and the register ----

    public int knew(int log, int d, int k) {
        if (!isLog(log) || !in(k, 0, today) || !in(d, 0, k)) {
            return -2;
        }
        int state = -1;
        for (int[] change : logs.get(log).changes) {
            state = change[1] <= d && change[2] <= k ? change[0] : state;
        }
        return state;
    }

    public boolean alter(int log, int place, int mask) {
        if (!isLog(log) || !in(place, 0, 4) || !in(mask, 1, 65535)) {
            return false;
        }
        logs.get(log).register[place] ^= mask;
        return true;
    }

    private static long sum(int[] numbers, boolean byPlace) {
        long sum = 0;
        for (int i = 0; i < 5; i++) {
            sum += byPlace ? (long) numbers[i] * (i + 1) : numbers[i];
        }
        return sum % 65537;
    }

    public int checked(int log, int what) {
        if (!isLog(log) || !in(what, 0, 1)) {
            return -3;
        }
        Stick l = logs.get(log);
        if (sum(l.register, false) == l.sum && sum(l.register, true) == l.byPlace) {
            return what == 0 ? -1 : -3;
        }
        for (int place = 0; place < 5; place++) {
            int[] others = l.register.clone();
            others[place] = 0;
            long rest = sum(others, false);
            long restByPlace = sum(others, true);
            for (long v = 0; v <= 65535; v++) {
                if ((rest + v) % 65537 == l.sum && (restByPlace + v * (place + 1)) % 65537 == l.byPlace) {
                    return what == 0 ? place : (int) v;
                }
            }
        }
        return what == 0 ? -2 : -3;
    }

    public int count(int what) {
        if (in(what, 20, 24)) {
            return (int) logs.stream().filter(l -> l.state == what - 20).count();
        }
        int allStems = 0;
        for (int cell = 0; cell < 64; cell++) {
            allStems += all(cell);
        }
        int paid = crews.stream().mapToInt(c -> c[3]).sum();
        int[] counts = {today, logs.size(), ways.size(), iron, 10 * laid.size(), texts.size(), crews.size(),
            orders.size(), stock, tape.length(), doubles.size(), spurs.size(), paid, allStems};
        return in(what, 0, 13) ? counts[what] : -1;
    }
}
