/** Promises 19 to 25: the tape, texts of law and their faults, what is barred and due. */
public final class LawTest {
    private static final String TERM = "cell=0";

    public static void main(String[] args) {
        tape();
        tapeAndLaw();
        goodTexts();
        faults();
        tooMany();
        everyByte();
        words();
        notAndAnd();
        inForce();
        whyNumbers();
        dues();
        Check.end();
    }

    private static void tape() {
        TimberValley x = new TimberValley();
        for (int i = 1; i <= 15; i++) {
            Check.is("feed", 20 * i, x.feed(-1, 0, Integer.MIN_VALUE, 1, 2));
        }
        Check.is("full", -1, x.feed(0, 0, 0, 0, 0));
        Check.is("bytes", 300, x.count(9));
        Check.is("below 0", -1, x.end(-1));
        Check.is("less", -1, x.end(301));
        Check.is("all", 300, x.end(300));
        Check.is("end", 281, x.end(281));
        Check.is("301 would be there", -1, x.feed(0, 0, 0, 0, 0));
        Check.is("end", 280, x.end(280));
        Check.is("feed", 300, x.feed(0, 0, 0, 0, 0));
        Check.is("end", 0, x.end(0));
        Check.is("bytes", 0, x.count(9));
        Check.is("less", -1, x.end(1));
    }

    private static void tapeAndLaw() {
        TimberValley x = new TimberValley();
        Check.tape(x, "pay 9 if day=0;");
        Check.is("no such day", -1, x.law(-1));
        Check.is("no such day", -1, x.law(4000));
        Check.is("the tape stays", 15, x.count(9));
        Check.is("law", 1, x.law(3999));
        Check.is("the tape is empty", 0, x.count(9));
        Check.is("texts", 1, x.count(5));
        Check.is("fault", -2, Check.law(x, 0, "pay 9"));
        Check.is("the tape is empty", 0, x.count(9));
        Check.is("texts", 1, x.count(5));
        Check.is("place", 5, x.place());
        Check.is("none", -1, x.law(4000));
        Check.is("place of the latest that was not none", 5, x.place());
        Check.is("empty", 0, x.law(0));
        Check.is("place", -1, x.place());
        Check.is("texts", 2, x.count(5));
        for (int i = 2; i < 20; i++) {
            Check.is("law", 1, Check.law(x, 0, "rent 7 if day=0;"));
        }
        Check.tape(x, "pay");
        Check.is("20 were told", -1, x.law(0));
        Check.is("the tape stays", 3, x.count(9));
        Check.is("place", -1, x.place());
        Check.is("texts", 20, x.count(5));
        x.crew(0);
        Check.is("rent by the last of them", 7, x.due(0, 2));
    }

    private static void good(int due, String text) {
        TimberValley x = new TimberValley();
        Check.is(text, due, Check.law(x, 0, text));
        Check.is(text, -1, x.place());
        Check.is(text, 1, x.count(5));
    }

    private static void goodTexts() {
        good(0, "");
        good(0, " \n\n ");
        good(1, "bar cut if cell=0;");
        good(1, "  bar\ncut  if\n\ncell = 0 ; ");
        good(1, "pay7if crew=1and day>0;");
        good(1, "pay 0000 if crew<9999;");
        good(2, "bar fire if not way=1;bar carry if far>3 and not slash<1 and water=1 and dry=1 and class=1;");
        good(3, "credit 1 if season=1;rent 22 if sort=1;pay 333 if height=1 and snow=1;");
        good(12, repeat("pay 1 if day=1;", 12));
        good(12, repeat("pay 1 if day=1;", 12) + "\n ");
        good(1, repeat(" ", 282) + "bar cut if cell=0;");
    }

    private static String repeat(String s, int many) {
        return s.repeat(many);
    }

    private static void bad(int kind, int place, String text) {
        TimberValley x = new TimberValley();
        x.crew(0);
        Check.is(text, -1 - kind, Check.law(x, 0, text));
        Check.is("place in " + text, place, x.place());
        Check.is("texts", 0, x.count(5));
        Check.is("nothing changed", 2, x.due(0, 0));
    }

    private static void faults() {
        bad(1, 0, ";");
        bad(1, 0, "if");
        bad(1, 0, "barx cut if cell=0;");
        bad(1, 0, "ba");
        bad(1, 0, "Bar cut if cell=0;");
        bad(1, 0, "b1");
        bad(1, 0, "1 pay if cell=0;");
        bad(1, 1, " cut if cell=0;");
        bad(1, 3, "bar");
        bad(1, 6, "bar   ");
        bad(1, 4, "bar 3 if cell=0;");
        bad(1, 4, "bar cuts if cell=0;");
        bad(1, 4, "pay cut if cell=0;");
        bad(1, 4, "pay 12345 if cell=0;");
        bad(1, 4, "pay 00001 if cell=0;");
        bad(1, 5, "pay 1;");
        bad(1, 6, "pay 1 cell=0;");
        bad(1, 8, "pay 1 if");
        bad(1, 9, "pay 1 if ;");
        bad(1, 9, "pay 1 if and cell=0;");
        bad(1, 9, "pay 1 if 7=0;");
        bad(1, 13, "pay 1 if not not cell=0;");
        bad(1, 13, "pay 1 if not and=0;");
        bad(1, 12, "pay 1 if not");
        bad(1, 14, "pay 1 if cell 0;");
        bad(1, 13, "pay 1 if cell;");
        bad(1, 14, "pay 1 if cell<=0;");
        bad(1, 14, "pay 1 if cell=x;");
        bad(1, 14, "pay 1 if cell=;");
        bad(1, 14, "pay 1 if cell=99999;");
        bad(1, 15, "pay 1 if cell=0");
        bad(1, 16, "pay 1 if cell=0 pay 1 if cell=0;");
        bad(1, 16, "pay 1 if cell=0 or cell=1;");
        bad(1, 20, "pay 1 if cell=0 and ;");
        bad(1, 17, "pay 1 if cell=0; ;");
        bad(1, 15, "pay 1 if cell=0\t;");
        bad(1, 4, "pay -1 if cell=0;");
        bad(1, 3, "pay" + (char) 233 + "1 if cell=0;");
        bad(1, 2, "  " + (char) 0);
        bad(1, 0, "a" + (char) 200);
    }

    private static void tooMany() {
        String five = TERM + repeat(" and " + TERM, 4);
        bad(2, 9 + five.length() + 5, "pay 1 if " + five + " and " + TERM + ";");
        bad(2, 9 + five.length() + 5, "pay 1 if " + five + " and not " + TERM + ";");
        bad(2, 9 + five.length() + 5, "pay 1 if " + five + " and not ;");
        bad(1, 9 + five.length() + 5, "pay 1 if " + five + " and ;");
        bad(1, 9 + five.length() + 4, "pay 1 if " + five + " and");
        bad(1, 9 + five.length() + 1, "pay 1 if " + five + " cell=0;");
        String twelve = repeat("pay 1 if day=1;", 12);
        bad(2, twelve.length(), twelve + "pay 1 if day=1;");
        bad(2, twelve.length() + 2, twelve + "  bar");
        bad(1, twelve.length(), twelve + ";");
        bad(1, twelve.length(), twelve + "if");
        bad(1, twelve.length(), twelve + "!");
        bad(1, twelve.length() - 1, twelve.substring(0, twelve.length() - 1));
    }

    private static void everyByte() {
        for (int b = 0; b < 256; b++) {
            String text = "pay 1 if cell=0;" + (char) b;
            if (b == 32 || b == 10) {
                good(1, text);
            } else {
                bad(1, 16, text);
            }
        }
    }

    /** A law that bars a cut just if a word is more than one less than its value, and so on. */
    private static void word(TimberValley x, String word, int value) {
        for (int d = -1; d <= 1; d++) {
            if (value + d < 0) {
                continue;
            }
            long less = value < value + d ? 0 : -1;
            long more = value > value + d ? 0 : -1;
            long alike = d == 0 ? 0 : -1;
            ask(x, word + "<" + (value + d), less);
            ask(x, word + ">" + (value + d), more);
            ask(x, word + "=" + (value + d), alike);
        }
    }

    private static TimberValley valley() {
        TimberValley x = new TimberValley();
        x.mill(27);
        x.cell(40, 11);
        x.stand(40, 2, 3, 9);
        x.crew(5);
        x.crew(6);
        x.crew(7);
        x.weather(30, 2, 7, 4);
        Check.days(x, 31);
        x.fall(2, 40, 2, 3, 2);
        return x;
    }

    private static void ask(TimberValley unused, String term, long due) {
        TimberValley x = valley();
        Check.is("law", 1, Check.law(x, 31, "bar cut if " + term + ";"));
        Check.is("cut: " + term, due, x.why(1, 40, 2, 3));
    }

    private static void words() {
        String[] names = {"cell", "height", "sort", "class", "season", "day", "snow", "water", "dry",
            "far", "slash", "crew", "way"};
        int[] cut = {40, 11, 2, 3, 1, 31, 2, 7, 4, 5, 3, 1, 0};
        int[] carry = {40, 11, 0, 0, 1, 31, 2, 7, 4, 5, 3, 0, 3};
        int[] fire = {40, 11, 0, 0, 1, 31, 2, 7, 4, 5, 3, 0, 0};
        int[] due = {0, 0, 0, 0, 1, 31, 2, 7, 4, 0, 0, 1, 0};
        for (int i = 0; i < names.length; i++) {
            word(null, names[i], cut[i]);
            TimberValley x = valley();
            Check.is("way", 0, x.way(3, 40, 41));
            Check.is("law", 4, Check.law(x, 31, "bar carry if " + names[i] + "=" + carry[i]
                    + ";bar fire if " + names[i] + "=" + fire[i] + ";credit 77 if " + names[i] + "=" + due[i]
                    + ";bar carry if day=31;"));
            Check.is("carry: " + names[i], 0, x.whyWay(0));
            Check.is("fire: " + names[i], -2, x.burn(40));
            Check.is("due: " + names[i], 77, x.due(1, 1));
            Check.is("carry is barred", 0, x.carry(0));
        }
    }

    private static void notAndAnd() {
        ask(null, "not cell=40", -1);
        ask(null, "not cell=41", 0);
        ask(null, "not cell<41 and day=31", -1);
        ask(null, "not cell<40 and day=31", 0);
        ask(null, "day=31 and not cell<40", 0);
        ask(null, "day=31 and cell=40 and sort=2 and class=3 and crew=1", 0);
        ask(null, "day=31 and cell=40 and sort=2 and class=3 and not crew=1", -1);
        ask(null, "day=30 and cell=40", -1);
    }

    private static void inForce() {
        TimberValley x = new TimberValley();
        x.crew(0);
        Check.is("without", 2, x.due(0, 0));
        Check.is("law", 1, Check.law(x, 5, "pay 5 if day>0;"));
        Check.is("law", 1, Check.law(x, 3, "pay 3 if day>0;"));
        Check.is("law", 1, Check.law(x, 4, "pay 4 if day=4;"));
        Check.days(x, 2);
        Check.is("day 2", 2, x.due(0, 0));
        x.day();
        Check.is("day 3", 3, x.due(0, 0));
        x.day();
        Check.is("day 4", 4, x.due(0, 0));
        x.day();
        Check.is("day 5", 5, x.due(0, 0));
        Check.is("law", 1, Check.law(x, 4, "pay 44 if day>0;"));
        Check.is("an older day", 5, x.due(0, 0));
        Check.is("law", 1, Check.law(x, 5, "rent 55 if day>0;"));
        Check.is("of one day the last told", 2, x.due(0, 0));
        Check.is("of one day the last told", 55, x.due(0, 2));
        Check.is("law", -2, Check.law(x, 5, "rent"));
        Check.is("a fault changes nothing", 55, x.due(0, 2));
        Check.is("law", 0, Check.law(x, 5, ""));
        Check.is("an empty text is in force too", 5, x.due(0, 2));
    }

    private static void whyNumbers() {
        TimberValley x = new TimberValley();
        x.crew(0);
        x.way(0, 0, 1);
        x.way(2, 1, 2);
        Check.is("law", 6, Check.law(x, 0, "pay 3 if day=0;bar carry if way=2;bar cut if class=1;"
                + "bar cut if class>0;bar fire if cell=7;bar carry if cell<9;"));
        Check.is("why", -1, x.why(0, 0, 0, 0));
        Check.is("why", 2, x.why(0, 0, 0, 1));
        Check.is("why", 3, x.why(0, 0, 0, 2));
        Check.is("why", 5, x.whyWay(0));
        Check.is("why", 1, x.whyWay(1));
        Check.is("burn", -2, x.burn(7));
        Check.is("burn", 0, x.burn(8));
        Check.is("crew", -2, x.why(1, 0, 0, 0));
        Check.is("crew", -2, x.why(-1, 0, 0, 0));
        Check.is("cell", -2, x.why(0, 64, 0, 0));
        Check.is("cell", -2, x.why(0, -1, 0, 0));
        Check.is("sort", -2, x.why(0, 0, 4, 0));
        Check.is("class", -2, x.why(0, 0, 0, 4));
        Check.is("class", -2, x.why(0, 0, 0, -1));
        Check.is("way", -2, x.whyWay(2));
        Check.is("way", -2, x.whyWay(-1));
        x.leave(0);
        Check.is("a crew that has left is still asked of", 2, x.why(0, 0, 0, 1));
    }

    private static void dues() {
        TimberValley x = new TimberValley();
        x.crew(0);
        x.crew(0);
        Check.is("pay", 2, x.due(0, 0));
        Check.is("credit", 50, x.due(0, 1));
        Check.is("rent", 5, x.due(0, 2));
        Check.is("what", -1, x.due(0, 3));
        Check.is("what", -1, x.due(0, -1));
        Check.is("crew", -1, x.due(2, 0));
        Check.is("crew", -1, x.due(-1, 0));
        Check.is("law", 6, Check.law(x, 0, "pay 9999 if crew=0;pay 8 if crew=0;pay 7 if crew=1;"
                + "credit 0 if crew=1;rent 0 if crew<1;credit 6 if cell=1;"));
        Check.is("the last that holds", 8, x.due(0, 0));
        Check.is("pay", 7, x.due(1, 0));
        Check.is("credit", 50, x.due(0, 1));
        Check.is("credit", 0, x.due(1, 1));
        Check.is("rent", 0, x.due(0, 2));
        Check.is("rent", 5, x.due(1, 2));
    }
}
