import java.lang.reflect.InvocationTargetException;
import java.lang.reflect.Method;
import java.lang.reflect.Modifier;
import java.util.ArrayList;
import java.util.Comparator;
import java.util.List;
import java.util.NoSuchElementException;
import java.util.Random;
import java.util.Set;

/**
 * Runs of any calls: nothing is thrown but what the document says, a refused call changes
 * nothing, a call that only tells changes nothing, and the same calls give the same answers.
 */
public final class RobustTest {
    private static final Set<String> THROWING = Set.of("hand", "each", "orderOf");
    /** Refused by false or by a number below 0, else they change something. */
    private static final Set<String> CHANGING = Set.of("cell", "stand", "sort", "mill", "weather", "price",
            "fall", "way", "iron", "lay", "dam", "day", "feed", "end", "crew", "shop", "lease", "found",
            "order", "saw", "fire", "burn", "spur", "asked", "forty", "row", "write", "alter");
    private static final int[] EDGES = {Integer.MIN_VALUE, -1000000, -32768, -2, -1, 40, 41, 60, 63, 64, 65,
        99, 100, 200, 201, 299, 300, 500, 501, 999, 1000, 3999, 4000, 65535, 65536, 1000000, Integer.MAX_VALUE};
    private static final String[] TEXTS = {"bar cut if class<1;", "pay 9 if crew=1;rent 2 if season=0;",
        "bar carry if way=4 and snow>2;", "credit 400 if day>0;bar fire if dry<5;", "bar", "pay 1 if cell=0 or;"};

    public static void main(String[] args) throws Exception {
        List<Method> methods = new ArrayList<>();
        for (Method m : TimberValley.class.getDeclaredMethods()) {
            if (Modifier.isPublic(m.getModifiers())) {
                methods.add(m);
            }
        }
        methods.sort(Comparator.comparing(Method::getName));
        for (int seed = 0; seed < 300; seed++) {
            long first = run(methods, seed, seed % 6 == 0);
            Check.is("the same answers again", first, run(methods, seed, false));
        }
        Check.end();
    }

    private static long run(List<Method> methods, int seed, boolean watched) throws Exception {
        Random random = new Random(seed);
        TimberValley x = new TimberValley();
        prepare(x, random);
        long answers = 0;
        for (int i = 0; i < 512; i++) {
            Method m = random.nextInt(5) == 0 ? favourite(methods, random)
                    : methods.get(random.nextInt(methods.size()));
            if (m.getName().equals("law") && random.nextBoolean()) {
                Check.tape(x, TEXTS[random.nextInt(TEXTS.length)]);
            }
            Object[] given = arguments(m, random);
            String before = watched ? everything(x) : "";
            long answer = call(x, m, given);
            answers = answers * 31 + answer;
            boolean refused = answer < 0 || m.getReturnType() == boolean.class && answer == 0;
            boolean only = !CHANGING.contains(m.getName()) && !Set.of("law", "leave").contains(m.getName());
            if (watched && (refused && CHANGING.contains(m.getName()) || only)) {
                Check.yes(m.getName() + " changes nothing", before.equals(everything(x)));
            }
        }
        return answers;
    }

    private static void prepare(TimberValley x, Random random) {
        for (int i = 0; i < 30; i++) {
            x.stand(random.nextInt(64), random.nextInt(4), random.nextInt(4), random.nextInt(201));
            x.cell(random.nextInt(64), random.nextInt(41));
            int from = random.nextInt(55);
            x.way(random.nextInt(5), from, from + (random.nextBoolean() ? 1 : 8));
        }
        x.mill(random.nextInt(64));
        x.crew(1);
        x.crew(2);
        x.iron(100);
    }

    private static Method favourite(List<Method> methods, Random random) {
        String name = new String[] {"day", "fall", "day"}[random.nextInt(3)];
        for (Method m : methods) {
            if (m.getName().equals(name)) {
                return m;
            }
        }
        return methods.get(0);
    }

    private static Object[] arguments(Method m, Random random) {
        Object[] given = new Object[m.getParameterCount()];
        boolean tame = random.nextInt(4) > 0;
        for (int i = 0; i < given.length; i++) {
            if (m.getParameterTypes()[i] == boolean.class) {
                given[i] = random.nextBoolean();
            } else if (tame) {
                given[i] = random.nextInt(random.nextInt(3) == 0 ? 64 : 5);
            } else {
                given[i] = random.nextInt(3) == 0 ? random.nextInt() : EDGES[random.nextInt(EDGES.length)];
            }
        }
        return given;
    }

    private static long call(TimberValley x, Method m, Object[] given) throws Exception {
        try {
            Object answer = m.invoke(x, given);
            return answer instanceof Boolean b ? b ? 1 : 0 : (Integer) answer;
        } catch (InvocationTargetException e) {
            boolean due = e.getCause().getClass() == NoSuchElementException.class
                    && THROWING.contains(m.getName());
            Check.yes(m.getName() + " throws " + e.getCause(), due);
            return -77;
        }
    }

    private static String everything(TimberValley x) {
        StringBuilder s = new StringBuilder();
        for (int what = 0; what <= 24; what++) {
            s.append(x.count(what)).append(' ');
        }
        for (int cell = 0; cell < 64; cell++) {
            for (int what = 0; what <= 20; what++) {
                s.append(x.of(cell, what)).append(' ');
            }
        }
        int today = x.count(0);
        for (int log = 0; log < x.count(1); log++) {
            for (int what = 0; what <= 8; what++) {
                s.append(x.log(log, what)).append(' ');
            }
            s.append(x.checked(log, 0)).append(' ').append(x.checked(log, 1)).append(' ');
            s.append(x.knew(log, today, today)).append(' ').append(x.best(log)).append(' ');
        }
        for (int i = 0; i < 40; i++) {
            s.append(x.carry(i)).append(' ').append(x.crewOf(i, 0)).append(' ').append(x.crewOf(i, 1));
            s.append(' ').append(x.crewOf(i, 2)).append(' ').append(x.crewOf(i, 3)).append(x.crewOf(i, 4));
            s.append(' ').append(x.due(i, 0)).append(' ').append(x.due(i, 1)).append(' ').append(x.due(i, 2));
            s.append(' ').append(i < x.count(7) ? x.orderOf(i, 0) * 4000 + x.orderOf(i, 1) : -1).append(' ');
        }
        for (int i = 0; i < 16; i++) {
            s.append(x.buck(i / 4, i % 4)).append(' ').append(x.cutIn(i / 2, i % 2)).append(' ');
            s.append(x.cruise(i / 4, i % 2)).append(' ').append(x.weatherOf(today + i, i % 3)).append(' ');
        }
        s.append(x.place()).append(' ').append(x.rails(7)).append(' ').append(x.railsOf(7, 2));
        return s.toString();
    }
}
