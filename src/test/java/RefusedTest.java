import java.util.ArrayList;
import java.util.List;

/**
 * A refused call answers NONE or false and leaves all as it is: of two clocks made alike one gets the
 * call, and from then on both must answer alike, in what they tell and in how they go on.
 */
public final class RefusedTest {
    private static final int NONE = HallClock.NONE;
    private static int bad = 0;

    private interface Maker { HallClock make(); }
    private interface Call { int on(HallClock x); }

    public static void main(String[] args) {
        refusedByAnyClock("a clock in use", RefusedTest::inUse);
        refusedByAnyClock("a full clock", RefusedTest::full);
        refusedByAnyClock("a new clock", HallClock::new);
        refusedBySize("a clock in use", RefusedTest::inUse, 3, 3, 2, 25, 4);
        refusedBySize("a full clock", RefusedTest::full, 8, 16, 4, 300, 10);
        refusedBySize("a new clock", HallClock::new, 0, 0, 0, 0, 0);
        refusedAsSoAlready();
        refusedAsFull();
        refusedWithoutWatch();
        System.out.println(bad == 0 ? "refused calls do nothing" : bad + " refused calls did something");
        if (bad != 0) System.exit(1);
    }

    private static int bit(boolean is) {
        return is ? 1 : 0;
    }

    private static int words(HallClock x, String text) {
        Edge.type(x, text);
        return x.strip();
    }

    /** Something of everything, nothing full; an image that is older. */
    private static HallClock inUse() {
        HallClock x = new HallClock();
        x.branch(NONE);
        x.branch(0);
        x.dial(0, false, 700, 0);
        x.dial(1, true, 10, 1);
        x.minutes(1);
        words(x, "ring 0 when minute=0;rest day=5;");
        x.image();
        x.branch(NONE);
        x.dial(2, false, 50, 1);
        x.worn(0, 3, 2);
        x.worn(1, 0, 4);
        x.cut(2, true);
        x.hold(1, true);
        x.minutes(50);
        words(x, "ring 1 when clock%90=0;ring 2 when date=2;");
        x.by(1);
        words(x, "rest 10000=1;");
        x.watch(4);
        x.read(0, 4, x.at(0, 0));
        x.read(1, 3, 12);
        Edge.type(x, "ring 3 when clock<5; rest");
        x.stop(true);
        return x;
    }

    /** As much of everything as there can be, at the last minute. */
    private static HallClock full() {
        HallClock x = new HallClock();
        for (int b = 0; b < 8; b++) x.branch(b / 2 - 1);
        for (int d = 0; d < 16; d++) x.dial(d / 2, d % 3 == 0, 40 * d, d % 2);
        x.worn(0, 2, 3);
        for (int s = 0; s < 4; s++) words(x, "ring " + s + " when clock>=" + s + ";");
        x.by(3);
        Edge.to(x, 575999);
        for (int d = 0; d < 16; d++) x.set(d, 715);
        x.watch(10);
        for (int i = 0; i < 30; i++) x.read(i % 16, 10, i % 2 == 0 ? 3 : 5);
        Edge.type(x, "rest 1=1;".repeat(11) + " ".repeat(201));
        return x;
    }

    /** What a clock tells and does from now on: some two hundred calls. */
    private static List<Integer> tells(HallClock x) {
        List<Integer> all = new ArrayList<>();
        for (int what = 0; what < 10; what++) all.add(x.about(what));
        for (int what = 20; what < 28; what++) all.add(x.about(what));
        dials(x, all);
        for (int what = 0; what < 2; what++) all.add(x.fault(what));
        for (int bell = 0; bell < 4; bell++) all.add(x.rings(bell, 2880));
        all.add(x.late(1, NONE));
        watched(x, all);
        for (int round = NONE; round < 3; round++) all.add(x.rounds(2, round));
        all.add(x.quick(3));
        all.add(x.storm(0, 1));
        all.add(x.minutes(1));
        dials(x, all);
        all.add(x.read(0, 1, 716));
        watched(x, all);
        all.add(x.strip());
        all.add(x.fault(1));
        all.add(x.about(5));
        all.add(x.back());
        for (int what = 0; what < 10; what++) all.add(x.about(what));
        dials(x, all);
        return all;
    }

    private static void dials(HallClock x, List<Integer> all) {
        int[] some = {0, 1, 2, 15};
        for (int d : some) for (int what = 0; what < 7; what++) all.add(x.at(d, what));
        all.add(x.wrong());
    }

    private static void watched(HallClock x, List<Integer> all) {
        all.add(x.fewest(399));
        for (int p = 1; p <= 4; p++) all.add(x.broken(399, 0, p));
        for (int what = 0; what < 3; what++) all.add(x.question(399, what));
    }

    private static void refused(String where, Maker maker, String what, int due, Call call) {
        HallClock one = maker.make();
        int got = call.on(one);
        if (got != due) {
            bad++;
            System.out.println(where + ": " + what + " answered " + got + ", due is " + due);
        }
        if (!tells(one).equals(tells(maker.make()))) {
            bad++;
            System.out.println(where + ": " + what + " did something");
        }
    }

    /** Arguments that are none for every clock. */
    private static void refusedByAnyClock(String where, Maker maker) {
        int[] wild = {Edge.LEAST, -1000, -2, 1000000, Edge.MOST};
        for (int w : wild) {
            refused(where, maker, "branch(" + w + ")", NONE, x -> x.branch(w));
            refused(where, maker, "dial(" + w + ", ..)", NONE, x -> x.dial(w, true, 0, 0));
            refused(where, maker, "worn(" + w + ", ..)", 0, x -> bit(x.worn(w, 1, 1)));
            refused(where, maker, "hang(" + w + ", 0)", 0, x -> bit(x.hang(w, 0)));
            refused(where, maker, "hang(0, " + w + ")", 0, x -> bit(x.hang(0, w)));
            refused(where, maker, "set(" + w + ", 0)", 0, x -> bit(x.set(w, 0)));
            refused(where, maker, "cut(" + w + ", true)", 0, x -> bit(x.cut(w, true)));
            refused(where, maker, "hold(" + w + ", true)", 0, x -> bit(x.hold(w, true)));
            refused(where, maker, "minutes(" + w + ")", NONE, x -> x.minutes(w));
            refused(where, maker, "quick(" + w + ")", NONE, x -> x.quick(w));
            refused(where, maker, "storm(" + w + ", 0)", NONE, x -> x.storm(w, 0));
            refused(where, maker, "at(" + w + ", 0)", NONE, x -> x.at(w, 0));
            refused(where, maker, "watch(" + w + ")", NONE, x -> x.watch(w));
            refused(where, maker, "read(" + w + ", 0, 0)", NONE, x -> x.read(w, 0, 0));
            refused(where, maker, "end(" + w + ")", NONE, x -> x.end(w));
            refused(where, maker, "by(" + w + ")", 0, x -> bit(x.by(w)));
            refused(where, maker, "about(" + w + ")", NONE, x -> x.about(w));
        }
        int[][] ends = {{-1, 720}, {-1, 2}, {-1, 1000}};
        for (int i = 0; i < 2; i++) {
            int hands = ends[0][i];
            int sign = ends[1][i];
            int wear = ends[2][i];
            refused(where, maker, "dial of hands " + hands, NONE, x -> x.dial(0, false, hands, 0));
            refused(where, maker, "dial of last " + sign, NONE, x -> x.dial(0, false, 0, sign));
            refused(where, maker, "worn by skip " + wear, 0, x -> bit(x.worn(0, wear, 1)));
            refused(where, maker, "worn by bounce " + wear, 0, x -> bit(x.worn(0, 1, wear)));
            refused(where, maker, "set to " + hands, 0, x -> bit(x.set(0, hands)));
            refused(where, maker, "storm of " + sign, NONE, x -> x.storm(0, sign));
            refused(where, maker, "read of hands " + hands, NONE, x -> x.read(0, 0, hands));
        }
        int[] lengths = {0, -1, 10001};
        for (int n : lengths) refused(where, maker, "minutes(" + n + ")", NONE, x -> x.minutes(n));
        int[] quicks = {0, -1, 1441};
        for (int n : quicks) refused(where, maker, "quick(" + n + ")", NONE, x -> x.quick(n));
        int[] watches = {0, -1, 11};
        for (int n : watches) refused(where, maker, "watch(" + n + ")", NONE, x -> x.watch(n));
        int[] whats = {-1, 7};
        for (int what : whats) refused(where, maker, "at(0, " + what + ")", NONE, x -> x.at(0, what));
        refusedQuestions(where, maker);
    }

    private static void refusedQuestions(String where, Maker maker) {
        int[] days = {-1, 400};
        for (int k : days) {
            refused(where, maker, "fewest(" + k + ")", NONE, x -> x.fewest(k));
            refused(where, maker, "broken(" + k + ", 0, 1)", NONE, x -> x.broken(k, 0, 1));
            refused(where, maker, "question(" + k + ", 0)", NONE, x -> x.question(k, 0));
            refused(where, maker, "often(0, " + k + ")", NONE, x -> x.often(0, k));
        }
        int[] bells = {-1, 4};
        for (int bell : bells) {
            refused(where, maker, "rings(" + bell + ", 0)", NONE, x -> x.rings(bell, 0));
            refused(where, maker, "next(" + bell + ", 0)", NONE, x -> x.next(bell, 0));
            refused(where, maker, "often(" + bell + ", 0)", NONE, x -> x.often(bell, 0));
            refused(where, maker, "together(" + bell + ", 0, 0)", NONE, x -> x.together(bell, 0, 0));
            refused(where, maker, "together(0, " + bell + ", 0)", NONE, x -> x.together(0, bell, 0));
            refused(where, maker, "late(" + bell + ", NONE)", NONE, x -> x.late(bell, NONE));
            refused(where, maker, "lesson(" + bell + ", 0)", NONE, x -> x.lesson(bell, 0));
            refused(where, maker, "lesson(0, " + bell + ")", NONE, x -> x.lesson(0, bell));
        }
        int[] minutes = {-1, 576000};
        for (int t : minutes) {
            refused(where, maker, "rings(0, " + t + ")", NONE, x -> x.rings(0, t));
            refused(where, maker, "next(0, " + t + ")", NONE, x -> x.next(0, t));
            refused(where, maker, "together(0, 1, " + t + ")", NONE, x -> x.together(0, 1, t));
        }
        refused(where, maker, "rounds(-1, NONE)", NONE, x -> x.rounds(-1, NONE));
        refused(where, maker, "rounds(16, NONE)", NONE, x -> x.rounds(16, NONE));
        refused(where, maker, "rounds(0, -2)", NONE, x -> x.rounds(0, -2));
        refused(where, maker, "rounds(0, 3)", NONE, x -> x.rounds(0, 3));
        refused(where, maker, "fault(-1)", NONE, x -> x.fault(-1));
        refused(where, maker, "fault(2)", NONE, x -> x.fault(2));
        refused(where, maker, "about(-1)", NONE, x -> x.about(-1));
        refused(where, maker, "about(10)", NONE, x -> x.about(10));
        refused(where, maker, "about(19)", NONE, x -> x.about(19));
        refused(where, maker, "about(28)", NONE, x -> x.about(28));
    }

    /** Arguments that are just beyond what this clock has. */
    private static void refusedBySize(String where, Maker maker, int branches, int dials, int strips, int tape, int pulses) {
        refused(where, maker, "branch(" + branches + ")", NONE, x -> x.branch(branches));
        int[] noBranch = {-1, branches};
        for (int b : noBranch) {
            refused(where, maker, "dial(" + b + ", ..)", NONE, x -> x.dial(b, false, 0, 0));
            refused(where, maker, "hang(0, " + b + ")", 0, x -> bit(x.hang(0, b)));
            refused(where, maker, "cut(" + b + ", true)", 0, x -> bit(x.cut(b, true)));
            refused(where, maker, "cut(" + b + ", false)", 0, x -> bit(x.cut(b, false)));
            refused(where, maker, "storm(" + b + ", 0)", NONE, x -> x.storm(b, 0));
            refused(where, maker, "broken(0, " + b + ", 1)", NONE, x -> x.broken(0, b, 1));
        }
        int[] noDial = {-1, dials};
        for (int d : noDial) {
            refused(where, maker, "worn(" + d + ", ..)", 0, x -> bit(x.worn(d, 1, 1)));
            refused(where, maker, "hang(" + d + ", 0)", 0, x -> bit(x.hang(d, 0)));
            refused(where, maker, "set(" + d + ", 0)", 0, x -> bit(x.set(d, 0)));
            refused(where, maker, "hold(" + d + ", true)", 0, x -> bit(x.hold(d, true)));
            refused(where, maker, "hold(" + d + ", false)", 0, x -> bit(x.hold(d, false)));
            refused(where, maker, "at(" + d + ", 0)", NONE, x -> x.at(d, 0));
            refused(where, maker, "read(" + d + ", 0, 0)", NONE, x -> x.read(d, 0, 0));
        }
        refused(where, maker, "late(0, " + dials + ")", NONE, x -> x.late(0, dials));
        refused(where, maker, "about(" + (20 + branches) + ")", NONE, x -> x.about(20 + branches));
        refused(where, maker, "by(" + strips + ")", 0, x -> bit(x.by(strips)));
        refused(where, maker, "end(" + (tape + 1) + ")", NONE, x -> x.end(tape + 1));
        refused(where, maker, "end(-1)", NONE, x -> x.end(-1));
        int[] noPulse = {-1, pulses + 1};
        for (int p : noPulse) refused(where, maker, "read(0, " + p + ", 0)", NONE, x -> x.read(0, p, 0));
        refused(where, maker, "broken(0, 0, 0)", NONE, x -> x.broken(0, 0, 0));
        refused(where, maker, "broken(0, 0, " + (pulses + 1) + ")", NONE, x -> x.broken(0, 0, pulses + 1));
    }

    private static void refusedAsSoAlready() {
        String where = "a clock in use";
        refused(where, RefusedTest::inUse, "cut(2, true)", 0, x -> bit(x.cut(2, true)));
        refused(where, RefusedTest::inUse, "cut(0, false)", 0, x -> bit(x.cut(0, false)));
        refused(where, RefusedTest::inUse, "hold(1, true)", 0, x -> bit(x.hold(1, true)));
        refused(where, RefusedTest::inUse, "hold(0, false)", 0, x -> bit(x.hold(0, false)));
        refused(where, RefusedTest::inUse, "stop(true)", 0, x -> bit(x.stop(true)));
        refused("a new clock", HallClock::new, "stop(false)", 0, x -> bit(x.stop(false)));
    }

    private static void refusedAsFull() {
        String where = "a full clock";
        refused(where, RefusedTest::full, "the 9th branch", NONE, x -> x.branch(NONE));
        refused(where, RefusedTest::full, "the 9th branch behind one", NONE, x -> x.branch(7));
        refused(where, RefusedTest::full, "the 17th dial", NONE, x -> x.dial(0, false, 0, 0));
        refused(where, RefusedTest::full, "beyond the last minute", NONE, x -> x.minutes(1));
        refused(where, RefusedTest::full, "far beyond the last minute", NONE, x -> x.minutes(10000));
        refused(where, RefusedTest::full, "the 31st read", NONE, x -> x.read(0, 0, 0));
        refused(where, RefusedTest::full, "more than 300 bytes", NONE, x -> x.feed(-1, -1, -1, -1, -1));
        refused(where, RefusedTest::full, "the 5th strip", NONE, HallClock::strip);
        Maker early = () -> {
            HallClock x = Edge.plain(0);
            Edge.to(x, 570000);
            return x;
        };
        refused("minute 570000", early, "beyond the last minute by one", NONE, x -> x.minutes(6000));
        Maker almost = () -> {
            HallClock x = new HallClock();
            Edge.type(x, " ".repeat(281));
            return x;
        };
        refused("281 bytes", almost, "more than 300 by one", NONE, x -> x.feed(-1, -1, -1, -1, -1));
    }

    private static void refusedWithoutWatch() {
        Maker maker = () -> Edge.plain(0, 5);
        refused("no watch", maker, "read(0, 0, 0)", NONE, x -> x.read(0, 0, 0));
        refused("no watch", maker, "fewest(0)", NONE, x -> x.fewest(0));
        refused("no watch", maker, "broken(0, 0, 1)", NONE, x -> x.broken(0, 0, 1));
        refused("no watch", maker, "question(0, 0)", NONE, x -> x.question(0, 0));
        refused("no text read", maker, "fault(0)", NONE, x -> x.fault(0));
        refused("no strip", maker, "late(0, NONE)", NONE, x -> x.late(0, NONE));
        refused("no strip", maker, "lesson(0, 1)", NONE, x -> x.lesson(0, 1));
    }
}
