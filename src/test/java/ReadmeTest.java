/** The examples of README.md, in their order, with the answers that stand there. */
public final class ReadmeTest {
    private static int bad = 0;

    private static void due(String call, int got, int want) {
        if (got != want) {
            bad++;
            System.out.println(call + " answered " + got + ", due is " + want);
        }
    }

    public static void main(String[] args) {
        HallClock clock = new HallClock();
        int hall = clock.branch(HallClock.NONE);
        int attic = clock.branch(hall);
        int dial = clock.dial(hall, false, 0, 1);
        int upper = clock.dial(attic, false, 0, 1);
        clock.minutes(5);
        due("at(dial, 0)", clock.at(dial, 0), 5);
        clock.cut(attic, true);
        due("minutes(2)", clock.minutes(2), 7);
        due("at(upper, 3)", clock.at(upper, 3), 2);
        clock.cut(attic, false);
        due("rounds(1, NONE)", clock.rounds(1, HallClock.NONE), 1);
        due("rounds(1, 0)", clock.rounds(1, 0), 2);
        watch(clock, attic, dial, upper);
        strips(clock, upper);
        System.out.println(bad == 0 ? "the examples of README.md hold" : bad + " answers are not as due");
        if (bad != 0) System.exit(1);
    }

    private static void watch(HallClock clock, int attic, int dial, int upper) {
        clock.watch(4);
        clock.read(dial, 4, 11);
        clock.read(upper, 4, 7);
        due("fewest(0)", clock.fewest(0), 1);
        due("broken(0, attic, 2)", clock.broken(0, attic, 2), 1);
        due("question(0, 0)", clock.question(0, 0), 1);
        due("question(0, 1)", clock.question(0, 1), 2);
    }

    private static void strips(HallClock clock, int upper) {
        type(clock, "ring 0 when minute = 0 and hour >= 8; ring 1 when clock % 90 = 0; rest day > 4;");
        due("by(strip())", clock.by(clock.strip()) ? 1 : 0, 1);
        due("next(0, 0)", clock.next(0, 0), 480);
        due("together(0, 1, 0)", clock.together(0, 1, 0), 540);
        due("late(1, upper)", clock.late(1, upper), 5);
        type(clock, "ring 4 when 1 = 1;");
        due("strip()", clock.strip(), HallClock.NONE);
        due("fault(0)", clock.fault(0), 2);
        due("fault(1)", clock.fault(1), 5);
    }

    private static void type(HallClock clock, String text) {
        for (int i = 0; i < text.length(); i += 20) {
            int[] five = new int[5];
            for (int k = 0; k < 20; k++) {
                int sign = i + k < text.length() ? text.charAt(i + k) : ' ';
                five[k / 4] = five[k / 4] << 8 | sign;
            }
            clock.feed(five[0], five[1], five[2], five[3], five[4]);
        }
        clock.end(text.length());
    }
}
