import java.lang.reflect.InvocationTargetException;
import java.lang.reflect.Method;
import java.lang.reflect.Modifier;
import java.nio.file.Files;
import java.nio.file.Path;
import java.util.ArrayList;
import java.util.Arrays;
import java.util.HashMap;
import java.util.IdentityHashMap;
import java.util.List;
import java.util.Map;
import java.util.NoSuchElementException;

/**
 * Holds calls against the document at its edges: what they answer, and that a refused one
 * changes nothing. Objects are made anew for every few questions, so that none is asked more
 * than the 512 calls for which the document speaks.
 */
final class Edge {
    /** The answer that stands for a NoSuchElementException. */
    static final long THROWS = Long.MIN_VALUE;
    private static final int LOOKS_AN_OBJECT = 200;
    private static final int LATER_TIMES = 4;
    private static final Map<String, Method> FACE = new HashMap<>();
    private static final Map<Run, List<Object[]>> LOOKS = new IdentityHashMap<>();
    private static final Map<Run, long[]> SEEN = new IdentityHashMap<>();
    private static String document = "";

    /** What is done with a new object: at most 200 calls, if refuses() is to look at it. */
    interface Run {
        void on(TimberValley x);
    }

    /** What follows is the test of this sentence: it is to stand in the document so. */
    static void says(String sentence) {
        try {
            if (document.isEmpty()) {
                document = plain(Files.readString(Path.of("../shared/DOC.md")));
            }
        } catch (java.io.IOException e) {
            throw new IllegalStateException(e);
        }
        Check.yes("the document says: " + sentence, document.contains(plain(sentence)));
    }

    static String plain(String text) {
        return text.replaceAll("\\s+", " ").trim();
    }

    static void is(TimberValley x, long due, String name, Object... given) {
        Check.is(name + Arrays.toString(given), due, call(x, name, given));
    }

    static TimberValley made(Run run) {
        TimberValley x = new TimberValley();
        run.on(x);
        return x;
    }

    /** The call's answer is due, and whatever is asked then is as if it had not been made. */
    static void refuses(Run run, long due, String name, Object... given) {
        is(made(run), due, name, given);
        sameAfter(run, name, given);
    }

    static void sameAfter(Run run, String name, Object... given) {
        long[] without = SEEN.computeIfAbsent(run, r -> look(r, x -> { }));
        long[] with = look(run, x -> call(x, name, given));
        int at = Arrays.mismatch(without, with);
        String where = at < 0 ? "" : Arrays.toString(lookAt(run, at));
        Check.is(name + Arrays.toString(given) + " changes nothing " + where, -1, at);
    }

    /** The call's answer is due, and something can be told from it. */
    static void changes(Run run, long due, String name, Object... given) {
        is(made(run), due, name, given);
        long[] without = SEEN.computeIfAbsent(run, r -> look(r, x -> { }));
        long[] with = look(run, x -> call(x, name, given));
        Check.no(name + Arrays.toString(given) + " changes nothing", Arrays.equals(without, with));
    }

    static long call(TimberValley x, String name, Object... given) {
        try {
            Object answer = face(name).invoke(x, given);
            return answer instanceof Boolean b ? b ? 1 : 0 : (Integer) answer;
        } catch (InvocationTargetException e) {
            if (e.getCause().getClass() == NoSuchElementException.class) {
                return THROWS;
            }
            throw new IllegalStateException(name + Arrays.toString(given), e.getCause());
        } catch (IllegalAccessException e) {
            throw new IllegalStateException(e);
        }
    }

    private static Method face(String name) {
        if (FACE.isEmpty()) {
            for (Method m : TimberValley.class.getDeclaredMethods()) {
                if (Modifier.isPublic(m.getModifiers())) {
                    FACE.put(m.getName(), m);
                }
            }
        }
        return FACE.get(name);
    }

    private static long[] look(Run run, Run behind) {
        List<Object[]> looks = LOOKS.computeIfAbsent(run, Edge::looksAt);
        long[] seen = new long[LATER_TIMES * looks.size()];
        for (int time = 0; time < LATER_TIMES; time++) {
            TimberValley x = null;
            for (int i = 0; i < looks.size(); i++) {
                if (i % LOOKS_AN_OBJECT == 0) {
                    x = made(run);
                    behind.on(x);
                    later(x, time);
                }
                Object[] one = looks.get(i);
                seen[time * looks.size() + i] = call(x, (String) one[0], (Object[]) one[1]);
            }
        }
        return seen;
    }

    /** What is hidden now shows a day later, as the TAPE becomes law, or as the year ends. */
    private static void later(TimberValley x, int time) {
        int today = x.count(0);
        if (time == 1) {
            x.day();
        } else if (time == 2) {
            x.law(today);
        } else if (time == 3) {
            Check.days(x, 100 - today % 100);
        }
    }

    private static Object[] lookAt(Run run, int at) {
        Object[] one = LOOKS.get(run).get(at % LOOKS.get(run).size());
        return new Object[] {"time " + at / LOOKS.get(run).size(), one[0], Arrays.toString((Object[]) one[1])};
    }

    private static void add(List<Object[]> looks, String name, Object... given) {
        looks.add(new Object[] {name, given});
    }

    private static List<Object[]> looksAt(Run run) {
        TimberValley x = made(run);
        List<Object[]> looks = new ArrayList<>();
        for (int what = 0; what <= 24; what++) {
            add(looks, "count", what);
        }
        cells(looks, x);
        logs(looks, x.count(0), x.count(1));
        waysAndCrews(looks, x);
        for (int i = 0; i < 5; i++) {
            add(looks, "hand", i, 0);
            add(looks, "hand", i, 1);
        }
        for (int i = 0; i < 16; i++) {
            add(looks, "buck", i / 4, i % 4);
            add(looks, "piece", i / 4, i % 4, 0);
            add(looks, "piece", i / 4, i % 4, 1);
            add(looks, "worth", i / 4, i % 4, 2 + i % 3);
            add(looks, "cutIn", i / 2, i % 2);
        }
        for (int units = 2; units <= 6; units++) {
            add(looks, "worth", 0, 3, units);
        }
        weather(looks, x.count(0));
        plansAndRows(looks);
        add(looks, "place");
        return looks;
    }

    private static void cells(List<Object[]> looks, TimberValley x) {
        for (int cell = 0; cell < 64; cell++) {
            for (int what = 0; what <= 4; what++) {
                add(looks, "of", cell, what);
            }
            if (x.of(cell, 4) > 0 || cell % 62 < 2) {
                for (int what = 5; what <= 20; what++) {
                    add(looks, "of", cell, what);
                }
            }
        }
    }

    /** The first few of many, and the last. */
    private static List<Integer> some(int many) {
        List<Integer> numbers = new ArrayList<>();
        for (int i = 0; i < many; i++) {
            if (i < 12 || i == many - 1) {
                numbers.add(i);
            }
        }
        return numbers;
    }

    private static void logs(List<Object[]> looks, int today, int many) {
        for (int log : some(many)) {
            for (int what = 0; what <= 8; what++) {
                add(looks, "log", log, what);
            }
            for (int what = 0; what <= 1; what++) {
                add(looks, "scale", log, what);
                add(looks, "checked", log, what);
            }
            for (int place = 0; place <= 5; place++) {
                add(looks, "board", log, place);
            }
            add(looks, "best", log);
            add(looks, "knew", log, 0, today);
            add(looks, "knew", log, today, today);
        }
    }

    private static void waysAndCrews(List<Object[]> looks, TimberValley x) {
        for (int way : some(x.count(2))) {
            add(looks, "carry", way);
            add(looks, "whyWay", way);
        }
        for (int crew : some(x.count(6))) {
            for (int what = 0; what <= 4; what++) {
                add(looks, "crewOf", crew, what);
                add(looks, "due", crew, what % 3);
            }
            add(looks, "why", crew, 10, 0, 3);
            add(looks, "why", crew, 0, 0, 0);
        }
        for (int order : some(x.count(7))) {
            for (int what = 0; what <= 2; what++) {
                add(looks, "orderOf", order, what);
            }
        }
    }

    private static void weather(List<Object[]> looks, int today) {
        for (int day : new int[] {0, today, today + 1, today + 2, 49, 50, 99, 199, 200, 3998, 3999}) {
            for (int what = 0; what < 3; what++) {
                add(looks, "weatherOf", day, what);
            }
        }
    }

    private static void plansAndRows(List<Object[]> looks) {
        for (int haul : new int[] {1, 6, 999}) {
            add(looks, "rails", haul);
            for (int season = 0; season < 4; season++) {
                add(looks, "railsOf", haul, season);
            }
        }
        for (int r = 0; r < 4; r++) {
            for (int place = 0; place <= 5; place++) {
                add(looks, "each", r, place);
            }
            add(looks, "cruise", r, 0);
            add(looks, "cruise", r, 1);
        }
    }
}
