import java.util.NoSuchElementException;

/** Counts answers that are not as due; every test ends with end(). */
final class Check {
    private static int wrong = 0;
    private static int asked = 0;

    interface Call {
        int answer();
    }

    static void is(String call, long due, long got) {
        asked++;
        if (due != got) {
            wrong++;
            System.out.println(call + " answered " + got + ", due is " + due);
        }
    }

    static void yes(String call, boolean got) {
        is(call, 1, got ? 1 : 0);
    }

    static void no(String call, boolean got) {
        is(call, 0, got ? 1 : 0);
    }

    static void none(String call, Call c) {
        asked++;
        try {
            int got = c.answer();
            wrong++;
            System.out.println(call + " answered " + got + ", due is NoSuchElementException");
        } catch (NoSuchElementException e) {
            return;
        }
    }

    /** Puts a text on the TAPE, byte by character, in place of what is there. */
    static void tape(TimberValley x, String text) {
        x.end(0);
        StringBuilder padded = new StringBuilder(text);
        while (padded.length() % 20 != 0) {
            padded.append(' ');
        }
        for (int i = 0; i < padded.length(); i += 20) {
            x.feed(four(padded, i), four(padded, i + 4), four(padded, i + 8),
                    four(padded, i + 12), four(padded, i + 16));
        }
        is("end", text.length(), x.end(text.length()));
    }

    private static int four(CharSequence s, int at) {
        return s.charAt(at) << 24 | s.charAt(at + 1) << 16 | s.charAt(at + 2) << 8 | s.charAt(at + 3);
    }

    static int law(TimberValley x, int from, String text) {
        tape(x, text);
        return x.law(from);
    }

    static void days(TimberValley x, int many) {
        for (int i = 0; i < many; i++) {
            x.day();
        }
    }

    static void end() {
        System.out.println(asked + " answers asked for, " + wrong + " wrong");
        if (wrong > 0 || asked == 0) {
            System.exit(1);
        }
    }
}
