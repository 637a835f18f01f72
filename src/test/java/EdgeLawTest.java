import java.util.Random;

/** The edges of part 3 and of promises 19 to 25: the tape, texts of law, what is barred and due. */
public final class EdgeLawTest {
    private static final Edge.Run RICH = Valleys::rich;
    private static final int LOW = Integer.MIN_VALUE;
    private static final int HIGH = Integer.MAX_VALUE;

    public static void main(String[] args) {
        feedBytes();
        feedFull();
        ends();
        lawDays();
        twentyTexts();
        threeHundredBytes();
        twelveStatements();
        fiveTerms();
        digits();
        blanks();
        words();
        bytes();
        theEnd();
        leastOfAPlace();
        anyTexts();
        faultChangesNothing();
        tapeIsEmptyThen();
        placeOfTheLatest();
        inForce();
        toldOnTheDayAtHand();
        relations();
        everyWord();
        notThere();
        firstBar();
        whatIsBarred();
        barredWay();
        lastThatHolds();
        payAheadOfTheCut();
        whyNumbers();
        whyWayNumbers();
        dueNumbers();
        Check.end();
    }

    private static void feedBytes() {
        Edge.says("Twenty bytes come behind the TAPE, of each number the highest first: how many it has");
        TimberValley x = new TimberValley();
        x.crew(0);
        // "pay 7777 if crew=0 ;" is twenty bytes
        Edge.is(x, 20, "feed", 0x70617920, 0x37373737, 0x20696620, 0x63726577, 0x3d30203b);
        Edge.is(x, 20, "count", 9);
        Edge.is(x, 1, "law", 0);
        Edge.is(x, 7777, "due", 0, 0);
        // a byte above 127 is one byte, and is told as such
        Edge.is(x, 20, "feed", 0x20202020, 0x200a2020, 0x2020ff20, 0, 0);
        Edge.is(x, -2, "law", 0);
        Edge.is(x, 10, "place");
        Edge.is(x, 20, "feed", 0x20202020, 0x200a2020, 0x20202020, 0x202020a0, 0);
        Edge.is(x, -2, "law", 0);
        Edge.is(x, 15, "place");
        Edge.is(x, 20, "feed", -1, 0, 0, 0, 0);
        Edge.is(x, -2, "law", 0);
        Edge.is(x, 0, "place");
    }

    private static void feedFull() {
        Edge.says("NONE if these would be more than 300.");
        Edge.Run full = x -> Check.tape(x, "pay 7 if day=9;".repeat(5) + " ".repeat(225));
        Check.is("bytes", 300, Edge.made(full).count(9));
        Edge.refuses(full, -1, "feed", 0x20202020, 0x20202020, 0x20202020, 0x20202020, 0x20202020);
        for (int bytes : new int[] {279, 280, 281, 299}) {
            Edge.Run near = x -> {
                full.on(x);
                x.end(bytes);
            };
            if (bytes > 280) {
                Edge.refuses(near, -1, "feed", 0, 0, 0, 0, 0);
            } else {
                Edge.changes(near, bytes + 20, "feed", 0, 0, 0, 0, 0);
            }
        }
        TimberValley x = new TimberValley();
        for (int many = 20; many <= 300; many += 20) {
            Edge.is(x, many, "feed", 0, 0, 0, 0, 0);
        }
        Edge.is(x, -1, "feed", 0, 0, 0, 0, 0);
        Edge.is(x, 300, "count", 9);
    }

    private static void ends() {
        Edge.says("The TAPE has its first n bytes alone: n; NONE if it has less, or n is below 0.");
        Check.is("bytes", 16, Edge.made(RICH).count(9));
        for (int n : new int[] {-1, 17, LOW, HIGH}) {
            Edge.refuses(RICH, -1, "end", n);
        }
        Edge.refuses(RICH, 16, "end", 16);
        Edge.changes(RICH, 15, "end", 15);
        Edge.changes(RICH, 0, "end", 0);
        TimberValley x = new TimberValley();
        Edge.is(x, 0, "end", 0);
        Edge.is(x, -1, "end", 1);
        Check.tape(x, "pay 1 if day=0;!");
        Edge.is(x, 15, "end", 15);
        Edge.is(x, -1, "end", 16);
        Edge.is(x, 1, "law", 0);
        // what was cut off does not come again with what is fed behind
        Check.tape(x, "pay 1 if day=0;! ! !");
        Edge.is(x, 15, "end", 15);
        Edge.is(x, 35, "feed", 0x20202020, 0x20202020, 0x20202020, 0x20202020, 0x20202020);
        Edge.is(x, 1, "law", 0);
        // a word and a number end where the TAPE does
        Check.tape(x, "bar cutter 12345");
        Edge.is(x, 7, "end", 7);
        Edge.is(x, -2, "law", 0);
        Edge.is(x, 7, "place");
        Check.tape(x, "pay 12345 if");
        Edge.is(x, 8, "end", 8);
        Edge.is(x, -2, "law", 0);
        Edge.is(x, 8, "place");
    }

    private static void lawDays() {
        Edge.says("The TAPE (empty then) is LAW from a DAY on: how many STATEMENTS; with a FAULT 1 less than minus "
                + "its kind (-2, -3). NONE: no such DAY, 20 were told (the TAPE stays).");
        for (int day : new int[] {-1, 4000, LOW, HIGH}) {
            Edge.refuses(RICH, -1, "law", day);
        }
        for (int day : new int[] {0, 5, 6, 3999}) {
            Edge.changes(RICH, 1, "law", day);
            TimberValley x = Edge.made(RICH);
            x.law(day);
            Edge.is(x, 0, "count", 9);
            Edge.is(x, 3, "count", 5);
        }
    }

    private static void twentyTexts() {
        Edge.says("LAW: texts, at most 20");
        Edge.Run full = x -> {
            x.crew(0);
            for (int i = 0; i < 20; i++) {
                Check.law(x, i, "rent " + (100 + i) + " if crew=0;");
            }
            Check.tape(x, "rent 9 if crew=0;");
        };
        Check.is("texts", 20, Edge.made(full).count(5));
        Edge.refuses(full, -1, "law", 0);
        Edge.refuses(full, -1, "law", 3999);
        TimberValley x = new TimberValley();
        x.crew(0);
        for (int i = 0; i < 20; i++) {
            Check.is("a fault is not told", -2, Check.law(x, 0, "rent 9 if crew;"));
            Edge.is(x, i, "count", 5);
            Check.is("text " + i, 1, Check.law(x, 0, "rent " + (20 + i) + " if crew=0;"));
            Edge.is(x, 20 + i, "due", 0, 2);
        }
        Check.is("a fault is not looked for", -1, Check.law(x, 0, "rent 9 if crew;"));
        Edge.is(x, 20, "count", 5);
        Edge.is(x, 15, "count", 9);
        Edge.is(x, -1, "place");
        Edge.is(x, 39, "due", 0, 2);
    }

    private static void good(int due, String text) {
        TimberValley x = new TimberValley();
        Check.is(text, due, Check.law(x, 0, text));
        Check.is(text, -1, x.place());
        Check.is(text, 1, x.count(5));
        Check.is(text, 0, x.count(9));
    }

    private static void bad(int kind, int place, String text) {
        TimberValley x = new TimberValley();
        Check.is(text, -1 - kind, Check.law(x, 0, text));
        Check.is("place in " + text, place, x.place());
        Check.is(text, 0, x.count(5));
        Check.is(text, 0, x.count(9));
    }

    private static void threeHundredBytes() {
        Edge.says("TEXT (at most 300 bytes): {STATEMENT ;}, 12 at most");
        String last = "rent 9 if crew=0;";
        good(1, " ".repeat(300 - last.length()) + last);
        bad(1, 300, " ".repeat(300 - last.length() + 1) + last.substring(0, last.length() - 1));
        good(12, "pay 1 if day<9;".repeat(11) + "pay 1 if day<9 and snow<9 and dry<9"
                + " ".repeat(300 - 11 * 15 - 36) + ";");
        good(12, "pay 1111 if season=1111;".repeat(12) + " ".repeat(12));
        bad(2, 288, "pay 1111 if season=1111;".repeat(12) + "pay 1 if day");
        bad(1, 299, " ".repeat(299) + "!");
        bad(1, 300, " ".repeat(293) + "bar cut");
        bad(1, 300, " ".repeat(292) + "pay 1234");
        bad(1, 295, " ".repeat(295) + "12345");
        bad(1, 0, "a".repeat(300));
        bad(1, 0, "7".repeat(300));
        good(0, " ".repeat(300));
        good(0, "");
    }

    private static void twelveStatements() {
        Edge.says("2 the first TOKEN of a 13th STATEMENT, of a 6th TERM (if these may stand there).");
        String one = "pay 1 if day=1;";
        for (int many = 0; many <= 12; many++) {
            good(many, one.repeat(many));
            good(many, one.repeat(many) + "\n ");
        }
        for (int many = 13; many <= 20; many++) {
            bad(2, 180, one.repeat(many));
        }
        for (String verb : new String[] {"bar", "pay", "credit", "rent"}) {
            bad(2, 181, one.repeat(12) + " " + verb);
            bad(2, 180, one.repeat(12) + verb + "!");
        }
        for (String no : new String[] {"if", "cut", "and", "not", "cell", "7", ";", "=", "!", "bars", "B", "77777"}) {
            bad(1, 180, one.repeat(12) + no);
        }
    }

    private static void fiveTerms() {
        Edge.says("COND: TERM {and TERM}, 5 at most; TERM: [not] WORD REL NUMBER");
        StringBuilder terms = new StringBuilder("pay 1 if day=1");
        for (int many = 1; many <= 5; many++) {
            good(1, terms + ";");
            good(2, terms + ";" + terms + ";");
            terms.append(" and day=1");
        }
        int sixth = terms.length() - 5;
        bad(2, sixth, terms + ";");
        bad(2, sixth, terms + " and day=1;");
        String five = terms.substring(0, sixth);
        for (String may : new String[] {"not", "cell", "height", "sort", "class", "season", "day", "snow", "water",
            "dry", "far", "slash", "crew", "way", "not not", "cell cell", "way!"}) {
            bad(2, sixth, five + may);
        }
        for (String no : new String[] {"and", "if", ";", "7", "cut", "pay", "=", "!", "nots", "cellar", "12345"}) {
            bad(1, sixth, five + no);
        }
        bad(1, five.length(), five);
        bad(1, five.length() - 5, five.substring(0, five.length() - 5) + "day=1;");
        // the count begins anew with each STATEMENT
        bad(2, 2 * sixth - 4, five.substring(0, sixth - 5) + ";" + five + "day=1;");
    }

    private static void digits() {
        Edge.says("NUMBERS have 1 to 4 digits.");
        for (String number : new String[] {"0", "9", "00", "10", "99", "000", "999", "0000", "9999"}) {
            TimberValley x = new TimberValley();
            x.crew(0);
            Check.is(number, 1, Check.law(x, 0, "pay " + number + " if crew=" + "0".repeat(number.length()) + ";"));
            Edge.is(x, Integer.parseInt(number), "due", 0, 0);
        }
        Edge.says("(a longer NUMBER at its first byte; the end: at how many bytes there are)");
        bad(1, 4, "pay 00000 if crew=0;");
        bad(1, 4, "pay 10000 if crew=0;");
        bad(1, 4, "pay 1234567890123 if crew=0;");
        bad(1, 4, "pay 12345");
        bad(1, 14, "pay 1 if crew=00000;");
        bad(1, 3, "pay00001 if crew=0;");
        bad(1, 0, "00001");
        good(1, "pay9999if crew=0000;");
    }

    private static void blanks() {
        Edge.says("TOKENS, blanks (32, 10) between where one likes");
        good(1, "pay1if crew=0and day<1;");
        good(1, "\n pay \n 1 \n if \n crew \n = \n 0 \n and \n day \n < \n 1 \n ; \n ");
        for (int b = 0; b < 256; b++) {
            boolean blank = b == 32 || b == 10;
            String between = "pay 1" + (char) b + "if crew=0;";
            String ahead = (char) b + "pay 1 if crew=0;";
            String behind = "pay 1 if crew=0;" + (char) b;
            if (blank) {
                good(1, ahead);
                good(1, behind);
            } else {
                bad(1, 0, ahead);
                bad(1, 16, behind);
            }
            if (blank || b >= '0' && b <= '9') {
                good(1, between);
            } else {
                bad(1, 5, between);
            }
        }
        bad(1, 0, "p ay 1 if crew=0;");
        bad(1, 6, "pay 1 1 if crew=0;");
        bad(1, 7, "pay 1 i f crew=0;".replace("i f", " i"));
    }

    private static void words() {
        Edge.says("words (small letters, as many as stand together), NUMBERS, the SIGNS ; and those of REL.");
        bad(1, 4, "bar cutif cell=0;");
        bad(1, 0, "barcut if cell=0;");
        bad(1, 8, "bar cut ifcell=0;");
        bad(1, 11, "bar cut if notcell=0;");
        bad(1, 17, "bar cut if cell=0andcell=0;");
        bad(1, 11, "bar cut if cells=0;");
        bad(1, 11, "bar cut if cel=0;");
        bad(1, 5, "pay 1iff cell=0;");
        good(1, "pay 1if cell=0;");
        good(1, "bar cut if not cell=0;");
        bad(1, 16, "bar cut if cell==0;");
        bad(1, 16, "bar cut if cell<=0;");
        bad(1, 16, "bar cut if cell><0;");
        bad(1, 16, "bar cut if cell=;");
        bad(1, 15, "bar cut if cell;=0;");
        bad(1, 18, "bar cut if cell=0;;");
        for (String what : new String[] {"cut", "carry", "fire"}) {
            good(1, "bar " + what + " if cell=0;");
            bad(1, 4, "pay " + what + " if cell=0;");
        }
        for (String verb : new String[] {"pay", "credit", "rent"}) {
            good(1, verb + " 1 if cell=0;");
            bad(1, 4, "bar " + verb + " if cell=0;");
        }
    }

    private static void bytes() {
        Edge.says("1 a byte or TOKEN with which no TEXT goes on");
        String text = "bar cut if cell=0;";
        for (int at = 0; at <= text.length(); at++) {
            for (int b : new int[] {0, 9, 13, 31, 33, '/', ':', '@', 'A', 'Z', '[', '`', '{', 127, 128, 160, 255}) {
                String broken = text.substring(0, at) + (char) b + text.substring(at);
                boolean inWord = at > 0 && at < text.length() && Character.isLetter(text.charAt(at - 1))
                        && Character.isLetter(text.charAt(at));
                int wordFrom = at;
                while (inWord && wordFrom > 0 && Character.isLetter(text.charAt(wordFrom - 1))) {
                    wordFrom--;
                }
                bad(1, wordFrom, broken);
            }
        }
    }

    private static void theEnd() {
        Edge.says("the end: at how many bytes there are");
        String text = "pay 1 if not cell = 0 and way > 3 ;";
        int[] tokenEnds = {3, 5, 8, 12, 17, 19, 21, 25, 29, 31, 33};
        for (int end : tokenEnds) {
            bad(1, end, text.substring(0, end));
            bad(1, end + 1, text.substring(0, end) + " ");
            bad(1, end + 3, text.substring(0, end) + "\n \n");
        }
        good(1, text);
    }

    private static void leastOfAPlace() {
        Edge.says("FAULTS, the first from the left, of one place the least");
        String twelve = "pay 1 if day=1;".repeat(12);
        // an earlier FAULT of the other kind comes first, whichever it is
        bad(1, 12, "pay 1 if day1=1;" + "pay 1 if day=1;".repeat(13));
        bad(2, 180, twelve + "pay 1 if day1=1;");
        bad(2, 59, "pay 1 if day=1" + " and day=1".repeat(4) + " and day1=1;!");
        bad(1, 49, "pay 1 if day=1 and day=1 and day=1 and day=1 and d=1 and day=1;");
        bad(1, 180, twelve + "!pay");
    }

    /** Any texts, each held against a pattern of its TOKENS. */
    private static void anyTexts() {
        Edge.says("{STATEMENT ;}, 12 at most: bar WHAT if COND | pay NUMBER if COND | credit NUMBER if COND | "
                + "rent NUMBER if COND.");
        Random random = new Random(7);
        for (int round = 0; round < 6000; round++) {
            String text = spoiled(random, anyText(random));
            int[] due = Model.judged(text);
            TimberValley x = new TimberValley();
            Check.is(text, due[0], Check.law(x, 0, text));
            Check.is("place in " + text, due[1], x.place());
        }
    }

    private static String anyText(Random random) {
        String[] words = {"cell", "height", "sort", "class", "season", "day", "snow", "water", "dry", "far", "slash",
            "crew", "way"};
        StringBuilder s = new StringBuilder();
        int statements = random.nextInt(4) == 0 ? 10 + random.nextInt(5) : random.nextInt(4);
        for (int i = 0; i < statements; i++) {
            s.append(new String[] {"bar cut", "bar carry", "bar fire", "pay 5", "credit 0123", "rent 9999"}
                    [random.nextInt(6)]).append(" if ");
            int terms = statements > 5 ? 1 : random.nextInt(3) == 0 ? 4 + random.nextInt(3) : 1 + random.nextInt(2);
            for (int t = 0; t < terms; t++) {
                s.append(t > 0 ? " and " : "").append(random.nextInt(3) == 0 ? "not " : "");
                s.append(statements > 5 ? "day" : words[random.nextInt(13)]).append("<=>".charAt(random.nextInt(3)));
                s.append(random.nextInt(statements > 5 ? 10 : 10000));
            }
            s.append(';');
        }
        return s.length() > 300 ? s.substring(0, 300) : s.toString();
    }

    private static String spoiled(Random random, String text) {
        String[] bits = {"", "", " ", "\n", "1", "0000", "a", "not ", "and ", " if ", ";", "=", "!", "bar ", "pay ",
            "cell", "cut", "\u00ff"};
        StringBuilder s = new StringBuilder(text);
        for (int i = random.nextInt(3); i > 0; i--) {
            int at = random.nextInt(s.length() + 1);
            int to = Math.min(s.length(), at + random.nextInt(random.nextInt(5) == 0 ? 9 : 2));
            s.replace(at, to, bits[random.nextInt(bits.length)]);
        }
        return s.length() > 300 ? s.substring(0, 300) : s.toString();
    }

    private static void faultChangesNothing() {
        Edge.says("A text with a FAULT changes nothing.");
        for (String text : new String[] {"pay 99 if crew=1;credit 1 if crew=1;bar cut if day=6;!", "pay 99 if crew<9",
            "rent 99 if day=6;".repeat(13), "bar carry if way<9;pay 1 if day=6" + " and day=6".repeat(5) + ";"}) {
            Edge.Run fed = x -> {
                Valleys.rich(x);
                Check.tape(x, text);
            };
            Edge.Run empty = x -> {
                Valleys.rich(x);
                x.end(0);
            };
            TimberValley x = Edge.made(fed);
            TimberValley y = Edge.made(empty);
            Check.yes("a fault", x.law(6) <= -2);
            for (int what = 0; what <= 24; what++) {
                Edge.is(x, y.count(what), "count", what);
            }
            for (int crew = 0; crew < 4; crew++) {
                for (int what = 0; what < 3; what++) {
                    Edge.is(x, y.due(crew, what), "due", crew, what);
                }
                Edge.is(x, y.why(crew, 0, 0, 0), "why", crew, 0, 0, 0);
                Edge.is(x, y.why(crew, 10, 0, 3), "why", crew, 10, 0, 3);
            }
            for (int way = 0; way < 9; way++) {
                Edge.is(x, y.whyWay(way), "whyWay", way);
                Edge.is(x, y.carry(way), "carry", way);
            }
            Check.days(x, 3);
            Edge.is(x, 8, "due", 0, 2);
        }
    }

    private static void tapeIsEmptyThen() {
        Edge.says("A refused call changes nothing (but the TAPE, where it is told).");
        TimberValley x = new TimberValley();
        Check.is("fault", -2, Check.law(x, 0, "pay"));
        Edge.is(x, 0, "count", 9);
        Edge.is(x, 0, "law", 0);
        Check.is("fault", -3, Check.law(x, 0, "pay 1 if day=1;".repeat(13)));
        Edge.is(x, 0, "count", 9);
        Edge.is(x, -1, "end", 1);
        Check.tape(x, "pay 1 if day=1;");
        Edge.is(x, -1, "law", 4000);
        Edge.is(x, 15, "count", 9);
        Edge.is(x, 1, "law", 3999);
        Edge.is(x, 0, "count", 9);
    }

    private static void placeOfTheLatest() {
        Edge.says("The place of the FAULT of the latest law() that was not NONE; NONE without one.");
        TimberValley x = new TimberValley();
        Edge.is(x, -1, "place");
        Edge.is(x, -1, "law", -1);
        Edge.is(x, -1, "place");
        Check.is("fault", -2, Check.law(x, 0, "!"));
        Edge.is(x, 0, "place");
        Edge.is(x, -1, "law", 4000);
        Edge.is(x, 0, "place");
        Check.is("fault", -2, Check.law(x, 0, "pay 1 if day=1;x"));
        Edge.is(x, 15, "place");
        Check.is("fault", -3, Check.law(x, 0, "pay 1 if day=1;".repeat(13)));
        Edge.is(x, 180, "place");
        Check.is("law", 1, Check.law(x, 0, "pay 1 if day=1;"));
        Edge.is(x, -1, "place");
        Check.is("fault", -2, Check.law(x, 0, "pay 1"));
        Edge.is(x, 5, "place");
        Edge.is(x, 0, "law", 0);
        Edge.is(x, -1, "place");
    }

    private static void inForce() {
        Edge.says("each in force from a DAY on: of those from that DAY or ahead the one from the latest DAY, "
                + "of one DAY the last told.");
        TimberValley x = new TimberValley();
        x.crew(0);
        int[][] told = {{4, 40}, {2, 20}, {4, 41}, {3, 30}, {2, 21}, {6, 60}, {0, 10}};
        for (int[] one : told) {
            Check.is("law", 1, Check.law(x, one[0], "rent " + one[1] + " if crew=0;"));
        }
        int[] due = {10, 10, 21, 30, 41, 41, 60, 60};
        for (int day = 0; day < 8; day++) {
            Edge.is(x, due[day], "due", 0, 2);
            x.day();
        }
        // one from an earlier DAY is not in force, though it is told last
        Check.is("law", 1, Check.law(x, 5, "rent 99 if crew=0;"));
        Edge.is(x, 60, "due", 0, 2);
        Check.is("law", 1, Check.law(x, 6, "rent 98 if crew=0;"));
        Edge.is(x, 98, "due", 0, 2);
        Check.is("law", 1, Check.law(x, 8, "credit 1 if crew=0;"));
        Edge.is(x, 5, "due", 0, 2);
        Edge.is(x, 1, "due", 0, 1);
    }

    private static void toldOnTheDayAtHand() {
        Edge.says("told on the DAY at hand");
        TimberValley x = new TimberValley();
        x.crew(0);
        Check.days(x, 10);
        Check.is("law", 1, Check.law(x, 11, "rent 70 if crew=0;"));
        Edge.is(x, 5, "due", 0, 2);
        Check.is("law", 1, Check.law(x, 10, "rent 60 if crew=0;"));
        Edge.is(x, 60, "due", 0, 2);
        x.day();
        Edge.is(x, 70, "due", 0, 2);
        Check.is("law", 1, Check.law(x, 0, "rent 50 if crew=0;"));
        Edge.is(x, 70, "due", 0, 2);
    }

    private static void relations() {
        Edge.says("TERM: [not] WORD REL NUMBER; REL: < = >");
        for (int number = 0; number <= 6; number++) {
            for (int not = 0; not < 2; not++) {
                for (char rel : "<=>".toCharArray()) {
                    TimberValley x = new TimberValley();
                    x.crew(0);
                    x.weather(0, 3, 0, 0);
                    Check.law(x, 0, "rent 9 if " + (not == 1 ? "not " : "") + "snow" + rel + number + ";");
                    boolean holds = rel == '<' ? 3 < number : rel == '=' ? 3 == number : 3 > number;
                    Check.is("3 " + rel + number, holds != (not == 1) ? 9 : 5, x.due(0, 2));
                }
            }
        }
    }

    /** What each word is of a cut by crew 1 in CELL 40, and of a carry from there. */
    private static void everyWord() {
        Edge.says("WORD: cell, height, sort, class, season, day, snow, water, dry, far, slash, crew, way (its kind).");
        Edge.says("A cut asks of the CELL, SORT, CLASS and crew on the DAY at hand, a carry of the WAY (its kind) "
                + "and its CELL");
        String[] words = {"cell", "height", "sort", "class", "season", "day", "snow", "water", "dry", "far", "slash",
            "crew", "way"};
        int[] cut = {40, 11, 2, 3, 1, 31, 2, 7, 4, 5, 3, 1, 0};
        int[] carry = {40, 11, 0, 0, 1, 31, 2, 7, 4, 5, 3, 0, 3};
        for (int word = 0; word < words.length; word++) {
            for (int value = 0; value <= 41; value++) {
                TimberValley x = new TimberValley();
                x.mill(27);
                x.cell(40, 11);
                x.cell(41, 12);
                x.stand(40, 2, 3, 9);
                x.crew(5);
                x.crew(6);
                x.weather(30, 2, 7, 4);
                x.way(3, 40, 41);
                Check.days(x, 31);
                x.fall(0, 40, 2, 3, 2);
                Check.law(x, 31, "bar cut if " + words[word] + "=" + value + ";bar carry if " + words[word] + "="
                        + value + ";");
                Check.is("cut: " + words[word] + "=" + value, value == cut[word] ? 0 : -1, x.why(1, 40, 2, 3));
                Check.is("carry: " + words[word] + "=" + value, value == carry[word] ? 1 : -1, x.whyWay(0));
            }
        }
    }

    private static void notThere() {
        Edge.says("What isn't there is 0.");
        TimberValley x = new TimberValley();
        x.crew(0);
        x.crew(0);
        x.cell(0, 9);
        x.mill(63);
        x.cell(40, 7);
        x.stand(0, 3, 3, 9);
        x.fall(0, 0, 3, 3, 2);
        x.way(4, 0, 1);
        Check.is("law", 4, Check.law(x, 0, "bar cut if way=0;bar carry if sort=0 and class=0 and crew=0;"
                + "bar fire if crew=0 and way=0 and sort=0 and class=0;"
                + "pay 9 if cell=0 and height=0 and far=0 and slash=0 and way=0;"));
        Edge.is(x, 0, "why", 1, 40, 3, 3);
        Edge.is(x, 1, "whyWay", 0);
        Edge.is(x, -2, "burn", 40);
        Edge.is(x, 9, "due", 1, 0);
        // the WAY of a cut is none, also where one begins
        Check.is("law", 1, Check.law(x, 0, "bar cut if way>0;"));
        Edge.is(x, -1, "why", 1, 0, 3, 3);
    }

    private static void firstBar() {
        Edge.says("MAY: no bar of that WHAT holds; WHY: the first one that does.");
        TimberValley x = new TimberValley();
        x.crew(0);
        x.way(0, 0, 1);
        Check.is("law", 12, Check.law(x, 0, "bar cut if cell=3;".repeat(3) + "pay 1 if day=0;".repeat(2)
                + "bar fire if day=0;bar cut if sort=2;bar carry if day=1;" + "bar cut if sort<3;".repeat(3)
                + "bar cut if day=0;"));
        Edge.is(x, 0, "why", 0, 3, 0, 0);
        Edge.is(x, 6, "why", 0, 4, 2, 0);
        Edge.is(x, 8, "why", 0, 4, 1, 0);
        Edge.is(x, 11, "why", 0, 4, 3, 0);
        Edge.is(x, -1, "whyWay", 0);
        x.day();
        Edge.is(x, 7, "whyWay", 0);
        Edge.is(x, -1, "why", 0, 4, 3, 0);
    }

    private static void whatIsBarred() {
        Edge.says("WHAT: cut, carry, fire (slash is burnt).");
        String[] whats = {"cut", "carry", "fire"};
        for (int i = 0; i < 3; i++) {
            TimberValley x = new TimberValley();
            x.crew(0);
            x.stand(9, 0, 0, 2);
            x.fall(0, 9, 0, 0, 4);
            x.way(0, 9, 10);
            Check.is("law", 1, Check.law(x, 0, "bar " + whats[i] + " if cell=9;"));
            Edge.is(x, i == 0 ? 0 : -1, "why", 0, 9, 0, 0);
            Edge.is(x, i == 0 ? -3 : 1, "fall", 0, 9, 0, 0, 4);
            Edge.is(x, i == 1 ? 0 : -1, "whyWay", 0);
            Edge.is(x, i == 1 ? 0 : 30, "carry", 0);
            Edge.is(x, i == 2 ? -2 : 0, "burn", 9);
            Edge.is(x, i == 0 ? 0 : i == 1 ? 0 : 6, "of", 9, 1);
            Edge.is(x, 1, "fire", 9, 0, 1);
        }
    }

    private static void barredWay() {
        Edge.says("a carry of the WAY (its kind) and its CELL: a WAY that is barred carries nothing that DAY.");
        TimberValley x = new TimberValley();
        x.crew(0);
        x.mill(63);
        x.stand(9, 0, 3, 9);
        x.fall(0, 9, 0, 3, 22);
        x.way(0, 9, 10);
        x.way(3, 9, 8);
        x.way(0, 10, 9);
        x.weather(0, 3, 0, 0);
        Check.is("law", 1, Check.law(x, 1, "bar carry if way=0 and cell=9;"));
        Edge.is(x, 27, "carry", 0);
        x.day();
        Edge.is(x, 0, "carry", 0);
        Edge.is(x, 40, "carry", 1);
        Edge.is(x, 27, "carry", 2);
        Edge.is(x, 2, "day");
        Edge.is(x, 2, "of", 8, 2);
        Check.is("law", 1, Check.law(x, 2, "bar carry if cell=8;"));
        x.way(0, 8, 9);
        Edge.is(x, 0, "day");
        Edge.is(x, 2, "of", 8, 2);
        Check.is("law", 1, Check.law(x, 3, "bar carry if cell=9;"));
        Edge.is(x, 2, "day");
        Edge.is(x, 2, "of", 9, 2);
    }

    private static void lastThatHolds() {
        Edge.says("PAY, CREDIT, RENT: NUMBER of the last that holds; 2, 50, 5 without");
        TimberValley x = new TimberValley();
        x.crew(0);
        x.crew(0);
        x.crew(0);
        int[] without = {2, 50, 5};
        String[] verbs = {"pay", "credit", "rent"};
        for (int what = 0; what < 3; what++) {
            Edge.is(x, without[what], "due", 0, what);
            StringBuilder s = new StringBuilder();
            for (int i = 0; i < 11; i++) {
                s.append(verbs[what]).append(' ').append(i).append(" if crew<2;");
            }
            Check.is("law", 12, Check.law(x, 0, s + verbs[what] + " 0 if crew=1;"));
            Edge.is(x, 10, "due", 0, what);
            Edge.is(x, 0, "due", 1, what);
            Edge.is(x, without[what], "due", 2, what);
            for (int other = 0; other < 3; other++) {
                Edge.is(x, other == what ? 10 : without[other], "due", 0, other);
            }
        }
    }

    private static void payAheadOfTheCut() {
        Edge.says("they ask of the crew on the DAY at hand (PAY of a STEM of all that its cut asks of, "
                + "as it was ahead of it).");
        TimberValley x = new TimberValley();
        x.crew(0);
        x.crew(0);
        x.cell(9, 4);
        x.stand(9, 1, 1, 9);
        Check.is("law", 3, Check.law(x, 0, "pay 100 if slash=0 and cell=9 and height=4 and sort=1 and class=1;"
                + "pay 10 if slash=3 and crew=1 and far=2 and day=0;pay 1 if slash=6;"));
        // 16 wide, 2 long: 144 times 2 by 16 is 18
        Edge.is(x, 1, "fall", 1, 9, 1, 1, 2);
        Edge.is(x, 18, "scale", 0, 0);
        Edge.is(x, 1800, "crewOf", 1, 1);
        Edge.is(x, 1, "fall", 1, 9, 1, 1, 2);
        Edge.is(x, 1980, "crewOf", 1, 1);
        Edge.is(x, 1, "fall", 1, 9, 1, 1, 2);
        Edge.is(x, 1998, "crewOf", 1, 1);
        Edge.is(x, 1, "fall", 1, 9, 1, 1, 2);
        Edge.is(x, 1998 + 36, "crewOf", 1, 1);
    }

    private static void whyNumbers() {
        Edge.says("WHY a crew MAY not cut a STEM: the STATEMENT's number (from 0 on). NONE: it MAY; -2: no such ones.");
        for (int crew : new int[] {-1, 4, LOW, HIGH}) {
            Edge.refuses(RICH, -2, "why", crew, 0, 0, 0);
        }
        for (int cell : new int[] {-1, 64, LOW, HIGH}) {
            Edge.refuses(RICH, -2, "why", 0, cell, 0, 0);
        }
        for (int wrong : new int[] {-1, 4, LOW, HIGH}) {
            Edge.refuses(RICH, -2, "why", 0, 0, wrong, 0);
            Edge.refuses(RICH, -2, "why", 0, 0, 0, wrong);
        }
        TimberValley x = Edge.made(RICH);
        Edge.is(x, 4, "why", 0, 0, 0, 0);
        Edge.is(x, -1, "why", 0, 63, 3, 3);
        Edge.is(x, -1, "why", 0, 0, 0, 1);
        Edge.is(x, 4, "why", 2, 0, 3, 0);
    }

    private static void whyWayNumbers() {
        Edge.says("WHY a WAY MAY not carry. NONE, -2 likewise.");
        for (int way : new int[] {-1, 9, LOW, HIGH}) {
            Edge.refuses(RICH, -2, "whyWay", way);
        }
        TimberValley x = Edge.made(RICH);
        for (int way = 0; way < 9; way++) {
            Edge.is(x, way == 6 ? 0 : -1, "whyWay", way);
        }
    }

    private static void dueNumbers() {
        Edge.says("PAY (what 0), CREDIT (1), RENT (2) of a crew on the DAY at hand (PAY without CELL, SORT, CLASS: 0). "
                + "NONE: no such ones.");
        for (int crew : new int[] {-1, 4, LOW, HIGH}) {
            Edge.refuses(RICH, -1, "due", crew, 0);
        }
        for (int what : new int[] {-1, 3, LOW, HIGH}) {
            Edge.refuses(RICH, -1, "due", 0, what);
        }
        int[][] due = {{2, 50, 4}, {2, 70, 5}, {2, 50, 5}};
        TimberValley x = Edge.made(RICH);
        for (int crew = 0; crew < 3; crew++) {
            for (int what = 0; what < 3; what++) {
                Edge.is(x, due[crew][what], "due", crew, what);
            }
        }
        TimberValley y = new TimberValley();
        y.crew(0);
        Check.is("law", 1, Check.law(y, 0, "pay 33 if cell=0 and sort=0 and class=0;"));
        Edge.is(y, 33, "due", 0, 0);
    }
}
