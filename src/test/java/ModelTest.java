import java.lang.reflect.InvocationTargetException;
import java.lang.reflect.Method;
import java.util.Arrays;
import java.util.HashMap;
import java.util.Map;
import java.util.NoSuchElementException;
import java.util.Random;

/** Runs of 512 calls whose every answer is held against that of a second, plain valley. */
public final class ModelTest {
    /** A method, how often it is called in each sort of run, and from what each argument is. */
    private static final String[] CALLS = {
        "cell 3 0 2 cell 0..40", "stand 6 1 5 cell 0..3 0..3 0..200", "sort 2 1 1 0..3 0..100 1..3",
        "mill 1 1 0 cell", "weather 5 1 6 day 0..9 water 0..9", "weatherOf 1 1 0 anyday 0..2",
        "price 2 1 0 2..6 0..99", "buck 1 1 0 0..3 0..3", "piece 1 1 0 0..3 0..3 0..4", "worth 1 1 0 0..3 0..3 row",
        "fall 18 4 12 crew cell 0..3 0..3 row", "way 5 1 4 0..4 cell cell", "iron 1 2 1 0..500",
        "lay 2 1 1 way flag", "dam 2 1 2 way", "carry 5 1 3 way", "day 20 3 200", "end 0 1 0 0..300",
        "feed 0 1 0 any any any any any", "law 0 1 0 anyday", "place 1 1 0", "why 3 1 1 crew cell 0..3 0..3",
        "whyWay 2 1 0 way", "due 3 1 2 crew 0..2", "crew 1 1 1 0..9", "shop 3 1 3 crew 1..60", "leave 1 1 1 crew",
        "lease 1 1 1 0..1", "scale 1 1 0 log 0..1", "found 2 2 0 0..4 log 0..999", "hand 2 2 0 0..4 0..1",
        "order 4 2 5 1..12 2..6 1..9 1..99 day", "best 3 1 3 pond", "board 4 1 3 pond 0..33", "saw 4 1 8 pond",
        "fire 1 1 0 cell 0..3 1..2", "burn 1 1 0 cell", "spur 0 4 0 set 1..50 0..40", "asked 0 3 0 0..3 set",
        "rails 0 2 0 0..20", "railsOf 0 4 0 0..20 0..3", "forty 0 2 0 0..3 0..3 0..3 0..4 0..9 5..60 0..5",
        "cutIn 0 5 0 0..7 0..1", "row 0 3 0 0..3 flag 0..40", "write 0 20 0 0..3 0..39 number",
        "each 0 8 0 0..3 0..39", "cruise 0 6 0 0..3 0..1", "knew 6 1 8 log pastday pastday",
        "alter 1 4 0 log 0..4 mask", "checked 1 3 0 log 0..1", "of 8 1 8 cell 0..20", "log 8 1 6 log 0..8",
        "crewOf 4 1 6 crew 0..4", "orderOf 3 1 3 order 0..2", "count 4 3 4 0..24"};
    private static final int[] WILD = {Integer.MIN_VALUE, Integer.MAX_VALUE, -1, -2, 0, 1, 64, 300, 4000, 65536};
    private static final int[] ROWS = {0, 0, 0, 2, 22, 4, 3, 222, 6, 5, 33, 24, 22222, 262, 7, 65, -1};
    private static final String[] WORDS = {"cell", "height", "sort", "class", "season", "day", "snow", "water", "dry",
        "far", "slash", "crew", "way"};

    private final Random random;
    private final TimberValley valley = new TimberValley();
    private final Model model = new Model();
    private final int profile;
    private final int cells;
    private int calls = 0;
    private static final Map<String, Method[]> METHODS = new HashMap<>();

    private ModelTest(long seed) {
        random = new Random(seed);
        profile = seed % 4 == 3 ? 1 : seed % 4 == 2 ? 2 : 0;
        cells = seed % 5 == 4 ? 64 : 10;
    }

    public static void main(String[] args) {
        int runs = args.length > 0 ? Integer.parseInt(args[0]) : 60;
        for (Method m : Model.class.getDeclaredMethods()) {
            for (Method face : TimberValley.class.getDeclaredMethods()) {
                if (java.lang.reflect.Modifier.isPublic(face.getModifiers()) && face.getName().equals(m.getName())
                        && Arrays.equals(m.getParameterTypes(), face.getParameterTypes())) {
                    METHODS.put(m.getName(), new Method[] {face, m});
                }
            }
        }
        Check.is("every method has its model", 55, METHODS.size());
        Check.is("every method is called", 55, CALLS.length);
        for (long seed = 0; seed < runs; seed++) {
            new ModelTest(seed).run(seed);
        }
        Check.end();
    }

    private void run(long seed) {
        int all = Arrays.stream(CALLS).mapToInt(c -> Integer.parseInt(c.split(" ")[1 + profile])).sum();
        begin(seed);
        while (calls < 512) {
            if (random.nextInt(40) == 0 && calls < 490) {
                tellLaw(seed);
                continue;
            }
            int at = random.nextInt(all);
            for (String one : CALLS) {
                String[] parts = one.split(" ");
                at -= Integer.parseInt(parts[1 + profile]);
                if (at < 0) {
                    Object[] given = new Object[parts.length - 4];
                    for (int i = 0; i < given.length; i++) {
                        given[i] = argument(parts[i + 4]);
                    }
                    makeLikely(parts[0], given);
                    call(seed, parts[0], given);
                    break;
                }
            }
        }
    }

    private void begin(long seed) {
        call(seed, "mill", cell());
        for (int i = 0; i < 3; i++) {
            call(seed, "crew", i);
            call(seed, "cell", cell(), random.nextInt(41));
        }
        for (int i = 0; i < 10; i++) {
            call(seed, "stand", cell(), random.nextInt(4), random.nextInt(4), random.nextInt(201));
            Object[] way = {random.nextInt(5), cell(), cell()};
            makeLikely("way", way);
            call(seed, "way", way);
        }
        call(seed, "iron", random.nextInt(60));
    }

    /** Most falls are of STEMS that stand, and most WAYS go to a CELL side by side. */
    private void makeLikely(String name, Object[] given) {
        if (random.nextInt(6) == 0) {
            return;
        }
        if (name.equals("way") && given[1] instanceof Integer from) {
            given[2] = from + new int[] {1, -1, 8, -8}[random.nextInt(4)];
        }
        for (int tries = 0; name.equals("fall") && tries < 200; tries++) {
            int at = cell();
            int kind = random.nextInt(16);
            if (model.of(at, 5 + kind) > 0) {
                given[0] = random.nextInt(model.count(6));
                given[1] = at;
                given[2] = kind / 4;
                given[3] = kind % 4;
                return;
            }
        }
    }

    private int cell() {
        int cell = random.nextInt(cells);
        return cells == 64 ? cell : cell % 4 + cell / 4 * 8;
    }

    private Object argument(String kind) {
        if (kind.equals("flag")) {
            return random.nextBoolean();
        }
        if (random.nextInt(30) == 0) {
            return random.nextBoolean() ? random.nextInt() : WILD[random.nextInt(WILD.length)];
        }
        int today = model.count(0);
        return switch (kind) {
            case "cell" -> cell();
            case "day" -> today + random.nextInt(12) - (random.nextInt(12) == 0 ? 2 : 0);
            case "anyday" -> random.nextInt(today + 20);
            case "pastday" -> random.nextInt(today + 1);
            case "crew" -> random.nextInt(model.count(6) + 1);
            case "log" -> random.nextInt(model.count(1) + 1);
            case "pond" -> pondLog();
            case "water" -> random.nextInt(3) == 0 ? 9 : random.nextInt(10);
            case "way" -> random.nextInt(model.count(2) + 1);
            case "order" -> random.nextInt(model.count(7) + 1);
            case "row" -> ROWS[random.nextInt(ROWS.length)];
            case "set" -> random.nextInt(1 << 1 + random.nextInt(8));
            case "number" -> random.nextInt(4) == 0 ? -32768 : random.nextInt(200) - 100;
            case "mask" -> random.nextInt(3) == 0 ? 1 + random.nextInt(65535) : 1 << random.nextInt(4);
            case "any" -> random.nextInt();
            default -> {
                String[] ends = kind.split("\\.\\.");
                int least = Integer.parseInt(ends[0]);
                int greatest = Integer.parseInt(ends[1]);
                yield random.nextInt(20) == 0 ? random.nextBoolean() ? least - 1 : greatest + 1
                        : least + random.nextInt(greatest - least + 1);
            }
        };
    }

    private int pondLog() {
        int log = random.nextInt(model.count(1) + 1);
        for (int tries = 0; tries < 30 && model.log(log, 6) != 1; tries++) {
            log = random.nextInt(model.count(1) + 1);
        }
        return log;
    }

    private void tellLaw(long seed) {
        String text = text();
        call(seed, "end", 0);
        StringBuilder padded = new StringBuilder(text);
        padded.append(" ".repeat((20 - text.length() % 20) % 20));
        for (int i = 0; i < padded.length(); i += 20) {
            Object[] five = new Object[5];
            for (int k = 0; k < 5; k++) {
                int four = 0;
                for (int b = 0; b < 4; b++) {
                    four = four << 8 | padded.charAt(i + 4 * k + b);
                }
                five[k] = four;
            }
            call(seed, "feed", five);
        }
        call(seed, "end", text.length());
        call(seed, "law", Math.max(0, model.count(0) + random.nextInt(6) - 2));
        call(seed, "place");
    }

    private String text() {
        StringBuilder s = new StringBuilder();
        for (int i = random.nextInt(4); i >= 0; i--) {
            s.append(new String[] {"bar cut", "bar carry", "bar fire", "pay 3", "credit 100", "rent 17", "pay 11"}
                    [random.nextInt(7)]).append(" if ");
            for (int t = random.nextInt(2); t >= 0; t--) {
                String word = WORDS[random.nextInt(13)];
                s.append(random.nextInt(4) == 0 ? "not " : "").append(word).append("<=>".charAt(random.nextInt(3)));
                int near = word.equals("day") ? model.count(0) : word.equals("cell") ? 10 : 3;
                s.append(random.nextInt(near * 2 + 1)).append(t > 0 ? " and " : ";");
            }
        }
        if (random.nextInt(6) == 0) {
            s.insert(random.nextInt(s.length()), " and;!7a".charAt(random.nextInt(8)));
        }
        return s.length() > 200 ? s.substring(0, 200) : s.toString();
    }

    private void call(long seed, String name, Object... given) {
        if (calls == 512) {
            return;
        }
        calls++;
        long got = answer(METHODS.get(name)[0], valley, given);
        long due = answer(METHODS.get(name)[1], model, given);
        Check.is("run " + seed + " call " + calls + ": " + name + Arrays.toString(given), due, got);
    }

    private static long answer(Method m, Object object, Object[] given) {
        try {
            Object answer = m.invoke(object, given);
            return answer instanceof Boolean b ? b ? 1 : 0 : (Integer) answer;
        } catch (InvocationTargetException e) {
            if (e.getCause() instanceof NoSuchElementException) {
                return Edge.THROWS;
            }
            throw new IllegalStateException(m.getName() + Arrays.toString(given), e.getCause());
        } catch (IllegalAccessException e) {
            throw new IllegalStateException(e);
        }
    }
}
