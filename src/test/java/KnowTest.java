import java.util.Random;

/** Promises 49 to 51: what the mill knew when, and the register. */
public final class KnowTest {
    public static void main(String[] args) {
        nearAndFar();
        sawn();
        alterations();
        for (int seed = 0; seed < 40; seed++) {
            register(new Random(seed));
        }
        Check.end();
    }

    private static void nearAndFar() {
        TimberValley x = new TimberValley();
        x.mill(0);
        x.crew(0);
        x.stand(63, 0, 0, 5);
        x.stand(3, 0, 0, 5);
        x.stand(4, 0, 0, 5);
        Check.is("no log", -2, x.knew(0, 0, 0));
        Check.days(x, 2);
        x.fall(0, 63, 0, 0, 4);
        x.fall(0, 3, 0, 0, 4);
        x.fall(0, 4, 0, 0, 4);
        Check.is("14 by 4: 3 days later", -1, x.knew(0, 2, 2));
        Check.is("3 by 4: at once", 0, x.knew(1, 2, 2));
        Check.is("4 by 4: a day later", -1, x.knew(2, 2, 2));
        Check.is("ahead of its first", -1, x.knew(1, 1, 2));
        x.day();
        Check.is("a day later", 0, x.knew(2, 2, 3));
        Check.is("but not the day ahead", -1, x.knew(2, 2, 2));
        x.fire(63, 0, 1);
        x.fire(4, 0, 1);
        Check.is("not known", 0, x.knew(2, 3, 3));
        Check.days(x, 1);
        Check.is("known", 3, x.knew(2, 3, 4));
        Check.is("as of the day ahead", 0, x.knew(2, 2, 4));
        Check.is("not known", -1, x.knew(0, 3, 4));
        x.day();
        Check.is("the fall is known, the fire isn't", 0, x.knew(0, 3, 5));
        Check.is("as of today", 0, x.knew(0, 5, 5));
        x.day();
        Check.is("the fire is known", 3, x.knew(0, 3, 6));
        Check.is("as of the day ahead", 0, x.knew(0, 2, 6));
        Check.is("as known the day ahead", 0, x.knew(0, 3, 5));
        Check.is("k is to come", -2, x.knew(0, 3, 7));
        Check.is("d behind k", -2, x.knew(0, 4, 3));
        Check.is("d", -2, x.knew(0, -1, 3));
        Check.is("k", -2, x.knew(0, -1, -1));
        Check.is("log", -2, x.knew(3, 0, 0));
        Check.is("log", -2, x.knew(-1, 0, 0));
    }

    private static void sawn() {
        TimberValley x = new TimberValley();
        x.mill(8);
        x.crew(0);
        x.stand(9, 0, 0, 5);
        x.way(0, 9, 8);
        x.fall(0, 9, 0, 0, 4);
        Check.days(x, 2);
        Check.is("in the pond by the day that went by", 1, x.knew(0, 1, 1));
        Check.is("lay", 0, x.knew(0, 0, 2));
        Check.is("pond", 1, x.knew(0, 2, 2));
        x.saw(0);
        Check.is("sawn", 2, x.knew(0, 2, 2));
        Check.is("the last of a day", 1, x.knew(0, 1, 2));
    }

    private static TimberValley oneLog() {
        TimberValley x = new TimberValley();
        x.crew(0);
        x.stand(33, 2, 3, 5);
        Check.days(x, 7);
        x.fall(0, 33, 2, 3, 3);
        return x;
    }

    private static void alterations() {
        TimberValley x = oneLog();
        Check.no("log", x.alter(1, 0, 1));
        Check.no("log", x.alter(-1, 0, 1));
        Check.no("place", x.alter(0, 5, 1));
        Check.no("place", x.alter(0, -1, 1));
        Check.no("mask", x.alter(0, 0, 0));
        Check.no("mask", x.alter(0, 0, 65536));
        Check.no("mask", x.alter(0, 0, -1));
        Check.is("right", -1, x.checked(0, 0));
        Check.is("no place", -3, x.checked(0, 1));
        Check.is("log", -3, x.checked(1, 0));
        Check.is("log", -3, x.checked(-1, 1));
        Check.is("what", -3, x.checked(0, 2));
        Check.is("what", -3, x.checked(0, -1));
        int[] numbers = {33, 2, 3, 30, 7};
        for (int place = 0; place < 5; place++) {
            for (int mask : new int[] {1, 65535, 32768, 4660}) {
                Check.yes("alter", x.alter(0, place, mask));
                Check.is("place", place, x.checked(0, 0));
                Check.is("number", numbers[place], x.checked(0, 1));
                Check.yes("alter back", x.alter(0, place, mask));
                Check.is("right", -1, x.checked(0, 0));
            }
        }
        Check.is("nothing else asks it", 30, x.log(0, 3));
        x.alter(0, 0, 1);
        x.alter(0, 1, 1);
        Check.is("33 to 32, 2 to 3: the sum is right", -2, x.checked(0, 0));
        Check.is("no place", -3, x.checked(0, 1));
        x.alter(0, 0, 1);
        Check.is("2 to 3 alone", 1, x.checked(0, 0));
        Check.is("what, where there is a place", -3, x.checked(0, 2));
        greatestNumbers();
    }

    /** Two numbers more by as much look like the one between them less by twice that. */
    private static void greatestNumbers() {
        TimberValley x = oneLog();
        x.alter(0, 0, 33 ^ 35);
        x.alter(0, 2, 3 ^ 5);
        Check.is("2 less 4, the rest by 65537", 1, x.checked(0, 0));
        Check.is("65535 is a number", 65535, x.checked(0, 1));
        x.stand(33, 1, 3, 1);
        x.fall(0, 33, 1, 3, 3);
        x.alter(1, 0, 33 ^ 34);
        x.alter(1, 2, 3 ^ 4);
        Check.is("65536 is none", -2, x.checked(1, 0));
        Check.is("65536 is none", -3, x.checked(1, 1));
    }

    /** Every place and every number is tried against the answers. */
    private static void register(Random random) {
        TimberValley x = oneLog();
        int[] numbers = {33, 2, 3, 30, 7};
        long sum = sum(numbers, false);
        long byPlace = sum(numbers, true);
        for (int i = 0; i < 4; i++) {
            int place = random.nextInt(5);
            int mask = random.nextInt(4) == 0 ? 1 + random.nextInt(65535) : 1 << random.nextInt(4);
            x.alter(0, place, mask);
            numbers[place] ^= mask;
            compare(x, numbers, sum, byPlace);
        }
    }

    private static void compare(TimberValley x, int[] numbers, long sum, long byPlace) {
        int duePlace = -2;
        int dueNumber = -3;
        if (sum(numbers, false) == sum && sum(numbers, true) == byPlace) {
            duePlace = -1;
        } else {
            for (int p = 0; p < 5; p++) {
                int kept = numbers[p];
                for (int v = 0; v <= 65535; v++) {
                    numbers[p] = v;
                    if (sum(numbers, false) == sum && sum(numbers, true) == byPlace) {
                        duePlace = p;
                        dueNumber = v;
                    }
                }
                numbers[p] = kept;
            }
        }
        Check.is("place", duePlace, x.checked(0, 0));
        Check.is("number", dueNumber, x.checked(0, 1));
    }

    private static long sum(int[] numbers, boolean byPlace) {
        long sum = 0;
        for (int i = 0; i < 5; i++) {
            sum += byPlace ? (long) numbers[i] * (i + 1) : numbers[i];
        }
        return sum % 65537;
    }
}
