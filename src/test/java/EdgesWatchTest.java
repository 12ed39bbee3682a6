/** Each sentence about the watch that names an edge (terms II, promises 15 to 19). */
public final class EdgesWatchTest {
    private static final int NONE = Edge.NONE;

    private static void says(String words) { Edge.says(words); }
    private static void due(String what, int got, int want) { Edge.due(what, got, want); }

    public static void main(String[] args) {
        dialsAsTheyAre();
        branchesAsTheyAre();
        signAsItIs();
        pulsesOfAWatch();
        readAtMost();
        readAtTheBeginning();
        toldOnADay();
        breakFromTo();
        breakAndBehind();
        noOtherBreaks();
        missDoesNothing();
        missOfTurned();
        jumpIsOneMore();
        jumpNeedsAnAct();
        oneMishapAtAPulse();
        atMostTwoBreaks();
        breaksOfOneBranchApart();
        breaksOfTwoBranches();
        knownOnADay();
        fewestMishaps();
        sureMayBeNot();
        setsWithFewMishaps();
        breakIsOfTheBranchItself();
        questionOfMost();
        questionOfLikeOnes();
        questionWithoutOwnMishaps();
        questionNone();
        questionByTwoBreaks();
        questionOfWorn();
        questionOfTurned();
        watch();
        watchAnew();
        read();
        fewest();
        broken();
        question();
        fullWatch();
        Edge.close("the edges of the watch hold");
    }

    /** A watch of the dials of one branch, as they are now. */
    private static HallClock watched(HallClock x, int n) {
        x.watch(n);
        return x;
    }

    /** Branch 1 behind 0, branch 2 by itself; two plain dials on each, their hands at 0. */
    private static HallClock six(int n) {
        HallClock x = new HallClock();
        x.branch(NONE);
        x.branch(0);
        x.branch(NONE);
        for (int d = 0; d < 6; d++) x.dial(d / 2, false, 0, 1);
        x.watch(n);
        return x;
    }

    private static void brokenRow(String what, HallClock x, int branch, int... due) {
        for (int p = 1; p <= due.length; p++) due(what + ": branch " + branch + " at " + p, x.broken(0, branch, p), due[p - 1]);
    }

    private static void dialsAsTheyAre() {
        says("WATCH: DIALS as they are when it is told (HANDS, LAST, COUNT, TURNED, SKIP, BOUNCE, BRANCH)");
        HallClock x = new HallClock();
        x.branch(NONE);
        x.branch(NONE);
        x.dial(0, true, 718, 0);
        x.dial(0, false, 100, 0);
        x.worn(1, 3, 2);
        x.storm(0, 1);
        due("hands, worn", x.at(1, 0), 101);
        x.watch(4);
        x.set(0, 5);
        x.set(1, 5);
        x.worn(1, 0, 0);
        x.hang(1, 1);
        x.storm(0, 0);
        x.hold(0, true);
        // The turned one showed 719 with last 1, so all four pulses do something.
        x.read(0, 0, 719);
        x.read(0, 4, 3);
        // The other one bounces at 2, skips at 3, bounces at 4.
        int[] hands = {101, 103, 103, 105, 106};
        for (int p = 0; p <= 4; p++) x.read(1, p, hands[p]);
        due("as it was told", x.fewest(0), 0);
        // A break of its branch at that time.
        x.watch(2);
        x.read(1, 2, 5);
        due("a break of branch 1 now", x.broken(0, 1, 1), 2);
        due("not of branch 0", x.broken(0, 0, 1), 0);
    }

    private static void branchesAsTheyAre() {
        says("WATCH: DIALS as they are when it is told");
        HallClock x = six(3);
        due("a branch behind it", x.branch(NONE), 3);
        due("is none of it", x.broken(0, 3, 1), NONE);
        due("the last one of it", x.broken(0, 2, 1), 0);
        due("a dial behind it", x.dial(0, false, 0, 0), 6);
        due("is none of it", x.read(6, 0, 0), NONE);
        due("the last one of it", x.read(5, 0, 0), 1);
    }

    private static void signAsItIs() {
        says("BRANCHES, THE SIGN; N PULSES");
        for (int sign = 0; sign < 2; sign++) {
            HallClock x = Edge.plain();
            if (sign == 1) x.quick(1);
            x.dial(0, true, 0, sign);
            x.watch(3);
            x.quick(1);
            int[] hands = {0, 0, 1, 2};
            for (int p = 0; p <= 3; p++) x.read(0, p, hands[p]);
            due("its first pulse has the sign " + sign, x.fewest(0), 0);
        }
    }

    private static void pulsesOfAWatch() {
        says("N PULSES (1 .. 10), numbered 1 .. N, that go out behind it");
        HallClock x = Edge.plain(0);
        due("0", x.watch(0), NONE);
        due("11", x.watch(11), NONE);
        due("none is told", x.about(8), 0);
        due("1", x.watch(1), 1);
        due("pulse 1 of 1", x.read(0, 1, 1), 1);
        due("pulse 2 of 1", x.read(0, 2, 2), NONE);
        due("break at 1", x.broken(0, 0, 1), 0);
        due("break at 2", x.broken(0, 0, 2), NONE);
        due("10", x.watch(10), 1);
        due("pulse 10 of 10", x.read(0, 10, 10), 1);
        due("pulse 11 of 10", x.read(0, 11, 11), NONE);
        due("break at 10", x.broken(0, 0, 10), 0);
        due("break at 11", x.broken(0, 0, 11), NONE);
        due("break at 0", x.broken(0, 0, 0), NONE);
        due("fewest", x.fewest(0), 0);
    }

    private static void readAtMost() {
        says("READ (30 at most)");
        HallClock x = watched(Edge.plain(0, 0), 10);
        for (int i = 1; i <= 29; i++) due("read", x.read(0, i % 11, i % 11), i);
        due("the 30th", x.read(1, 10, 9), 30);
        due("it counts", x.fewest(0), 1);
        due("the 31st", x.read(0, 0, 5), NONE);
        due("how many", x.about(7), 30);
        due("it doesn't count", x.fewest(0), 1);
        x.watch(10);
        due("anew", x.read(0, 0, 0), 1);
    }

    private static void readAtTheBeginning() {
        says("showed HANDS behind PULSE i (0: at its beginning)");
        for (int more = -1; more <= 1; more++) {
            HallClock x = watched(Edge.plain(0, 719), 2);
            x.read(0, 0, Math.floorMod(more, 720));
            due("0 and " + more, x.fewest(0), more == 0 ? 0 : NONE);
            x = watched(Edge.plain(0, 719), 2);
            x.read(1, 0, (719 + more) % 720);
            due("719 and " + more, x.fewest(0), more == 0 ? 0 : NONE);
        }
        HallClock x = watched(Edge.plain(719), 2);
        x.read(0, 1, 0);
        x.read(0, 2, 1);
        due("719 to 0", x.fewest(0), 0);
    }

    private static void toldOnADay() {
        says("TOLD on the clock's DAY (m / 1440)");
        HallClock x = watched(Edge.plain(0, 0, 0), 2);
        x.stop(true);
        Edge.to(x, 1439);
        x.read(0, 1, 2);
        x.minutes(1);
        x.read(1, 1, 2);
        Edge.to(x, 399 * 1440 - 1);
        x.read(2, 1, 2);
        x.minutes(1);
        x.read(2, 2, 2);
        due("minute 1439: day 0", x.fewest(0), 1);
        due("minute 1440: day 1", x.fewest(1), 2);
        due("as known ahead of the last but one", x.fewest(397), 2);
        due("the last but one", x.fewest(398), 3);
        due("the last day: a miss behind a jump", x.fewest(399), 4);
    }

    private static void breakFromTo() {
        says("a BREAK of a BRANCH from PULSE a to c");
        HallClock x = six(10);
        x.read(0, 1, 0);
        x.read(1, 1, 0);
        x.read(0, 2, 1);
        due("one at the first pulse alone", x.fewest(0), 1);
        brokenRow("at 1", x, 0, 2, 0, 0, 0, 0, 0, 0, 0, 0, 0);
        x = six(10);
        x.read(0, 9, 9);
        x.read(0, 10, 9);
        x.read(1, 10, 9);
        due("one at the last pulse alone", x.fewest(0), 1);
        brokenRow("at 10", x, 0, 0, 0, 0, 0, 0, 0, 0, 0, 0, 2);
        x = six(10);
        x.read(0, 10, 0);
        due("one from the first to the last", x.fewest(0), 1);
        brokenRow("all", x, 0, 2, 2, 2, 2, 2, 2, 2, 2, 2, 2);
        x = six(10);
        x.read(0, 10, 1);
        due("one from the first or to the last", x.fewest(0), 1);
        brokenRow("all but one", x, 0, 1, 2, 2, 2, 2, 2, 2, 2, 2, 1);
    }

    private static void breakAndBehind() {
        says("those don't come to it nor behind it");
        HallClock x = six(3);
        for (int d = 0; d < 4; d++) x.read(d, 3, 2);
        due("one for both branches", x.fewest(0), 1);
        brokenRow("ahead", x, 0, 1, 1, 1);
        brokenRow("behind", x, 1, 0, 0, 0);
        for (int d = 4; d < 6; d++) x.read(d, 3, 2);
        due("one more for the branch by itself", x.fewest(0), 2);
        brokenRow("by itself", x, 2, 1, 1, 1);
        x = six(3);
        x.read(0, 3, 3);
        x.read(2, 3, 2);
        x.read(3, 3, 2);
        due("behind alone", x.fewest(0), 1);
        brokenRow("ahead", x, 0, 0, 0, 0);
        brokenRow("behind", x, 1, 1, 1, 1);
        x = Edge.chain();
        x.watch(1);
        x.read(7, 1, 0);
        x.read(6, 1, 0);
        x.read(1, 1, 0);
        due("of eight behind one another", x.fewest(0), 1);
        brokenRow("the first", x, 0, 1);
        brokenRow("the second", x, 1, 1);
        brokenRow("the third", x, 2, 0);
    }

    private static void noOtherBreaks() {
        says("in a WATCH no BRANCH is BROKEN but by these");
        HallClock x = Edge.plain(0);
        x.cut(0, true);
        x.hold(0, true);
        x.watch(2);
        x.read(0, 2, 2);
        due("all pulses came", x.fewest(0), 0);
        due("no break", x.broken(0, 0, 1), 0);
        x.watch(2);
        x.read(0, 2, 0);
        due("no pulse came: that is a break", x.fewest(0), 1);
        due("for sure", x.broken(0, 0, 1), 2);
    }

    private static void missDoesNothing() {
        says("a MISS of a DIAL at a PULSE (it does nothing then, if it came)");
        HallClock x = Edge.plain(0, 0);
        x.worn(0, 2, 0);
        x.watch(2);
        x.read(1, 2, 2);
        x.read(0, 1, 0);
        x.read(0, 2, 1);
        due("its count is one less, so it doesn't skip at the second", x.fewest(0), 1);
        brokenRow("the other one tells that it was no break", x, 0, 0, 0);
        x.watch(10);
        for (int p = 1; p <= 10; p++) x.read(1, p, 0);
        x.read(0, 10, 5);
        due("a break of seven, three misses and three jumps are fewer than ten misses", x.fewest(0), 7);
    }

    private static void missOfTurned() {
        says("a MISS of a DIAL at a PULSE (it does nothing then, if it came)");
        HallClock x = watched(Edge.turned(0, 0), 4);
        x.read(1, 4, 4);
        x.read(0, 4, 2);
        due("one miss, and the next pulse has its last sign", x.fewest(0), 1);
        x = watched(Edge.turned(0, 0), 4);
        x.read(1, 4, 4);
        x.read(0, 4, 3);
        due("a miss at the last pulse", x.fewest(0), 1);
        x.read(0, 3, 2);
        due("two jumps fewer: a miss with its neighbour, and a jump", x.fewest(0), 2);
    }

    private static void jumpIsOneMore() {
        says("a JUMP of a DIAL at a PULSE (one minute more than otherwise, if it came and did something)");
        int[][] cases = {{0, 0, 1}, {1, 0, 0}, {0, 1, 2}, {1, 1, 0}};
        for (int[] c : cases) {
            for (int hands = 716; hands < 720; hands++) {
                HallClock x = Edge.plain(hands);
                x.worn(0, c[0], c[1]);
                x.watch(1);
                x.read(0, 1, (hands + c[2]) % 720);
                due("as it goes, from " + hands, x.fewest(0), 0);
                x.watch(1);
                x.read(0, 1, (hands + c[2] + 1) % 720);
                due("with a jump, from " + hands, x.fewest(0), 1);
                x.watch(1);
                x.read(0, 1, (hands + c[2] + 2) % 720);
                due("two more, from " + hands, x.fewest(0), NONE);
                x.watch(1);
                x.read(0, 1, (hands + 719) % 720);
                due("one less, from " + hands, x.fewest(0), NONE);
            }
        }
    }

    private static void jumpNeedsAnAct() {
        says("if it came and did something");
        HallClock x = Edge.plain();
        x.dial(0, true, 0, 0);
        x.watch(1);
        x.read(0, 1, 1);
        due("a turned one with that sign", x.fewest(0), NONE);
        x.watch(2);
        x.read(0, 2, 2);
        due("at its second pulse", x.fewest(0), 1);
        x.watch(2);
        x.read(0, 2, 3);
        due("not two", x.fewest(0), NONE);
        x = watched(Edge.plain(0, 0), 2);
        x.read(1, 1, 0);
        x.read(0, 1, 2);
        due("a jump and a miss: no break, as then no jump", x.fewest(0), 2);
        brokenRow("no break", x, 0, 0, 0);
    }

    private static void oneMishapAtAPulse() {
        says("One MISS or JUMP of a DIAL at one PULSE");
        HallClock x = watched(Edge.plain(0), 10);
        x.read(0, 10, 20);
        due("a jump at each of ten", x.fewest(0), 10);
        x.watch(10);
        x.read(0, 10, 21);
        due("more than that", x.fewest(0), NONE);
        x.watch(1);
        x.read(0, 1, 3);
        due("two at one pulse", x.fewest(0), NONE);
        x = Edge.plain(0);
        x.worn(0, 0, 1);
        x.watch(10);
        x.read(0, 10, 30);
        due("a jump at each of ten bounces", x.fewest(0), 10);
        x.watch(10);
        x.read(0, 10, 31);
        due("more than that", x.fewest(0), NONE);
    }

    private static void atMostTwoBreaks() {
        says("sets of at most two BREAKS");
        HallClock x = Edge.plain(0, 0, 0);
        x.watch(5);
        int[] twoGaps = {0, 1, 1, 2, 3};
        int[] threeGaps = {0, 1, 1, 2, 2};
        for (int d = 0; d < 3; d++) for (int p = 1; p <= 5; p++) x.read(d, p, twoGaps[p - 1]);
        due("two gaps of three dials: two breaks", x.fewest(0), 2);
        brokenRow("two gaps", x, 0, 2, 0, 2, 0, 0);
        x.watch(5);
        for (int d = 0; d < 3; d++) for (int p = 1; p <= 5; p++) x.read(d, p, threeGaps[p - 1]);
        due("three gaps of three dials: two breaks and three misses", x.fewest(0), 5);
        brokenRow("three gaps", x, 0, 1, 0, 1, 0, 1);
        x = Edge.plain();
        x.branch(NONE);
        x.branch(NONE);
        for (int d = 0; d < 9; d++) x.dial(d / 3, false, 0, 1);
        x.watch(1);
        for (int d = 0; d < 9; d++) x.read(d, 1, 0);
        due("three branches: two breaks and three misses", x.fewest(0), 5);
        brokenRow("three branches", x, 0, 1);
        brokenRow("three branches", x, 2, 1);
    }

    private static void breaksOfOneBranchApart() {
        says("(of one BRANCH neither meeting nor side by side)");
        HallClock x = Edge.plain(0, 0, 0);
        x.watch(3);
        for (int d = 0; d < 3; d++) x.read(d, 3, 1);
        due("two pulses of three: one break, or two with a pulse between them would be more", x.fewest(0), 1);
        brokenRow("side by side is one", x, 0, 1, 2, 1);
        x.watch(3);
        for (int d = 0; d < 3; d++) {
            x.read(d, 1, 0);
            x.read(d, 2, 1);
            x.read(d, 3, 1);
        }
        due("one pulse between them", x.fewest(0), 2);
        brokenRow("one between", x, 0, 2, 0, 2);
    }

    private static void breaksOfTwoBranches() {
        says("sets of at most two BREAKS (of one BRANCH neither meeting nor side by side)");
        HallClock x = six(4);
        int[] hands = {0, 0, 1, 2};
        for (int d = 0; d < 2; d++) for (int p = 1; p <= 4; p++) x.read(d, p, hands[p - 1]);
        for (int d = 4; d < 6; d++) for (int p = 1; p <= 4; p++) x.read(d, p, hands[p - 1]);
        due("those of two branches may meet", x.fewest(0), 2);
        brokenRow("one", x, 0, 2, 2, 0, 0);
        brokenRow("the other", x, 2, 2, 2, 0, 0);
        x = six(4);
        int[] ahead = {1, 1, 2, 3};
        int[] behind = {1, 1, 1, 2};
        for (int d = 0; d < 2; d++) for (int p = 1; p <= 4; p++) x.read(d, p, ahead[p - 1]);
        for (int d = 2; d < 4; d++) for (int p = 1; p <= 4; p++) x.read(d, p, behind[p - 1]);
        due("one and one behind it", x.fewest(0), 2);
        brokenRow("ahead", x, 0, 0, 2, 0, 0);
        brokenRow("behind it, where it may begin earlier", x, 1, 0, 1, 2, 0);
    }

    private static void knownOnADay() {
        says("by which all READ, TOLD on k or ahead, are so");
        HallClock x = watched(Edge.plain(0), 3);
        x.stop(true);
        due("nothing read", x.fewest(0), 0);
        Edge.to(x, 2 * 1440);
        x.read(0, 3, 4);
        Edge.to(x, 4 * 1440);
        x.read(0, 0, 1);
        int[] due = {0, 0, 1, 1, NONE, NONE};
        for (int k = 0; k < 6; k++) due("as known on " + k, x.fewest(k), due[k]);
        due("broken as known on 3", x.broken(3, 0, 1), 0);
        due("broken as known on 4", x.broken(4, 0, 1), NONE);
        due("question as known on 3", x.question(3, 0), NONE);
        due("as known on the last", x.fewest(399), NONE);
    }

    private static void fewestMishaps() {
        says("THE FEWEST: how many MISHAPS");
        HallClock x = six(10);
        for (int d = 0; d < 4; d++) {
            x.read(d, 10, 7);
            due("one break for " + (d + 1) + " dials", x.fewest(0), 1);
        }
        x.read(4, 10, 11);
        due("a jump of another one", x.fewest(0), 2);
        x.read(5, 10, 8);
        due("and two misses beside it", x.fewest(0), 4);
        x.read(5, 9, 8);
        due("one of them the last", x.fewest(0), 4);
        x.read(5, 8, 8);
        due("the last two", x.fewest(0), 4);
        x.read(5, 0, 0);
        due("with what nobody doubts", x.fewest(0), 4);
        x.read(5, 7, 8);
        due("a jump ahead of three misses", x.fewest(0), 6);
    }

    private static void sureMayBeNot() {
        says("a BRANCH at a PULSE is SURE to be broken (2: in all such), MAY BE (1), NOT (0: in none)");
        HallClock x = six(4);
        brokenRow("nothing read", x, 0, 0, 0, 0, 0);
        x.read(0, 4, 2);
        x.read(1, 4, 2);
        brokenRow("two of four", x, 0, 1, 1, 1, 1);
        x.read(0, 2, 1);
        brokenRow("one of the first two", x, 0, 0, 2, 2, 0);
        x = six(4);
        x.read(0, 4, 1);
        x.read(1, 4, 1);
        brokenRow("three of four", x, 0, 1, 2, 2, 1);
        brokenRow("three of four", x, 1, 0, 0, 0, 0);
    }

    private static void setsWithFewMishaps() {
        says("Of all sets of two, one or no BREAKS by which, with the least MISSES and JUMPS that do, there are so few");
        HallClock x = six(2);
        x.read(0, 1, 0);
        due("a miss, or a break", x.fewest(0), 1);
        brokenRow("of no break it is none", x, 0, 1, 1);
        x.read(1, 1, 0);
        brokenRow("two misses would be too many", x, 0, 2, 1);
        x = six(2);
        x.read(0, 1, 0);
        x.read(2, 1, 1);
        due("a miss alone: a break of branch 0 would be two", x.fewest(0), 1);
        due("pulse 1", x.broken(0, 0, 1), 0);
        x = six(3);
        x.read(0, 3, 2);
        x.read(4, 3, 2);
        due("each by a miss or a break", x.fewest(0), 2);
        brokenRow("none, one or two breaks", x, 0, 1, 1, 1);
        brokenRow("none, one or two breaks", x, 2, 1, 1, 1);
        brokenRow("none", x, 1, 0, 0, 0);
    }

    private static void breakIsOfTheBranchItself() {
        says("a BRANCH at a PULSE is SURE to be broken");
        HallClock x = six(1);
        for (int d = 0; d < 4; d++) x.read(d, 1, 0);
        brokenRow("ahead", x, 0, 2);
        brokenRow("behind: no pulse came, but it is whole itself", x, 1, 0);
    }

    private static void questionOfMost() {
        says("THE QUESTION: the DIAL and PULSE (0 .. N) at which such sets, without MISSES and JUMPS of that DIAL, would show most unlike HANDS");
        HallClock x = six(10);
        x.read(0, 10, 7);
        x.read(1, 10, 7);
        // The break is of pulses i .. i + 2, i from 1 to 8: behind pulse 3 they show 0, 1, 2, 3.
        due("dial", x.question(0, 0), 0);
        due("pulse", x.question(0, 1), 3);
        due("unlike", x.question(0, 2), 4);
        x = Edge.plain(719, 719);
        x.watch(1);
        x.read(0, 1, 719);
        due("the last pulse of one, dial", x.question(0, 0), 0);
        due("the last pulse of one", x.question(0, 1), 1);
        due("unlike: 719 and 0", x.question(0, 2), 2);
        x.read(1, 1, 719);
        due("both stood: none", x.question(0, 0), NONE);
    }

    private static void questionOfLikeOnes() {
        says("of like ones the first DIAL, then PULSE");
        HallClock x = six(4);
        x.read(2, 4, 3);
        x.read(3, 4, 3);
        x.read(1, 4, 4);
        // A break of branch 1 at one of four pulses: at 1, 2 and 3 two unlike ones each, for dials 2 and 3.
        due("the first dial on the branch", x.question(0, 0), 2);
        due("the first pulse", x.question(0, 1), 1);
        due("unlike", x.question(0, 2), 2);
        x.read(2, 1, 1);
        due("the next pulse", x.question(0, 1), 2);
        x.read(3, 2, 2);
        due("the next pulse", x.question(0, 1), 3);
        x.read(3, 3, 3);
        due("none is left", x.question(0, 1), NONE);
    }

    private static void questionWithoutOwnMishaps() {
        says("without MISSES and JUMPS of that DIAL");
        HallClock x = watched(Edge.plain(0), 2);
        x.read(0, 2, 3);
        due("a jump is sure, no break: it would show 2", x.question(0, 0), NONE);
        x = watched(Edge.plain(0), 1);
        x.read(0, 1, 0);
        due("a miss, without which it would show 1; a break by which it shows 0", x.question(0, 2), 2);
        due("though it was read there", x.question(0, 1), 1);
    }

    private static void questionNone() {
        says("none, if all are alike");
        HallClock x = six(3);
        for (int what = 0; what < 3; what++) due("nothing read", x.question(0, what), NONE);
        x.read(0, 3, 0);
        for (int what = 0; what < 3; what++) due("one break for sure", x.question(0, what), NONE);
        x = new HallClock();
        x.branch(NONE);
        due("watch of no dials", x.watch(1), 0);
        due("no question", x.question(0, 0), NONE);
        x = Edge.plain();
        x.branch(0);
        x.dial(1, false, 0, 1);
        x.watch(1);
        x.read(0, 1, 0);
        due("a miss, a break ahead, a break of its own: unlike hands", x.question(0, 2), 2);
        brokenRow("ahead", x, 0, 1);
        brokenRow("its own", x, 1, 1);
    }

    private static void asks(String what, HallClock x, int dial, int pulse, int unlike) {
        due(what + ": dial", x.question(0, 0), dial);
        due(what + ": pulse", x.question(0, 1), pulse);
        due(what + ": unlike", x.question(0, 2), unlike);
    }

    private static void questionByTwoBreaks() {
        says("at which such sets, without MISSES and JUMPS of that DIAL, would show most unlike HANDS");
        HallClock x = six(4);
        for (int d = 0; d < 2; d++) x.read(d, 4, 0);
        for (int d = 4; d < 6; d++) x.read(d, 4, 3);
        due("two breaks", x.fewest(0), 2);
        asks("the second break by itself", x, 4, 1, 2);
        x = six(4);
        for (int d = 0; d < 2; d++) x.read(d, 4, 3);
        for (int d = 4; d < 6; d++) x.read(d, 4, 0);
        asks("the first break by itself", x, 0, 1, 2);
        x = six(4);
        for (int d = 0; d < 2; d++) {
            x.read(d, 1, 0);
            x.read(d, 2, 1);
            x.read(d, 4, 3);
        }
        for (int d = 2; d < 4; d++) x.read(d, 4, 2);
        due("a break ahead of pulse 1, and one behind it", x.fewest(0), 2);
        brokenRow("ahead", x, 0, 2, 0, 0, 0);
        brokenRow("behind", x, 1, 1, 1, 1, 1);
        asks("the one behind it", x, 2, 2, 2);
        x = Edge.plain(0, 0, 0);
        x.watch(5);
        for (int d = 0; d < 3; d++) {
            x.read(d, 2, 1);
            x.read(d, 3, 2);
            x.read(d, 5, 3);
        }
        due("two breaks of one branch", x.fewest(0), 2);
        brokenRow("one of the first two, one of the last two", x, 0, 1, 1, 0, 1, 1);
        asks("the first of them", x, 0, 1, 2);
        x.read(0, 1, 1);
        asks("then the second", x, 0, 4, 2);
    }

    private static void questionOfWorn() {
        says("would show most unlike HANDS");
        HallClock x = Edge.plain(0, 0, 0);
        x.worn(0, 1, 0);
        x.worn(2, 0, 1);
        x.watch(3);
        x.read(1, 3, 2);
        x.read(2, 3, 4);
        due("a break", x.fewest(0), 1);
        asks("the first one always skips, so it shows nothing", x, 1, 1, 2);
        x = Edge.plain(0, 0);
        x.worn(0, 2, 0);
        x.watch(4);
        x.read(0, 4, 1);
        x.read(1, 4, 2);
        // A break of two of four: behind pulse 2 the plain one shows 0, 1 or 2, the other one 0 or 1.
        due("one break", x.fewest(0), 1);
        asks("the one that doesn't skip shows more", x, 1, 2, 3);
        x = Edge.plain(0, 0);
        x.worn(1, 2, 0);
        x.watch(4);
        x.read(1, 4, 1);
        x.read(0, 4, 2);
        asks("likewise", x, 0, 2, 3);
        x = Edge.plain(0, 0);
        x.worn(0, 3, 0);
        x.watch(3);
        x.read(1, 2, 1);
        // A miss, or a break of 1, of 2, of 2 .. 3: behind pulse 3 the plain one shows 1, 2 or 3, the other one 1 or 2.
        due("one mishap", x.fewest(0), 1);
        asks("the third that came would skip", x, 1, 3, 3);
    }

    private static void questionOfTurned() {
        says("would show most unlike HANDS");
        HallClock x = watched(Edge.turned(0, 0), 4);
        x.read(0, 4, 3);
        x.read(1, 4, 3);
        // A break of the last pulse alone: with an earlier one the next pulse has its last sign.
        due("one break", x.fewest(0), 1);
        brokenRow("the last", x, 0, 0, 0, 0, 2);
        due("no question", x.question(0, 0), NONE);
        x.watch(4);
        x.read(0, 4, 2);
        x.read(1, 4, 2);
        // Breaks of 1, of 2, of 3, of 1 .. 2, of 2 .. 3, of 3 .. 4: behind 1: 0 or 1; behind 2: 0, 1 or 2; behind 3: 1 or 2.
        brokenRow("two are lost", x, 0, 1, 1, 1, 1);
        asks("behind the second", x, 0, 2, 3);
        x = watched(Edge.turned(0), 4);
        x.read(0, 2, 1);
        x.read(0, 4, 2);
        // A miss of 2, or a break of 2, of 2 .. 3: with none behind 2 it would show 2, by both breaks 1.
        brokenRow("the second is lost, and what goes with it", x, 0, 0, 1, 1, 0);
        asks("behind the second, where they part", x, 0, 2, 2);
    }

    /** What an earlier watch told must not be left in a later one. */
    private static void watchAnew() {
        says("WATCH of N PULSES; all READ is gone");
        HallClock x = six(4);
        x.read(0, 4, 2);
        x.read(1, 4, 2);
        brokenRow("two of four", x, 0, 1, 1, 1, 1);
        asks("two of four", x, 0, 2, 3);
        x.watch(4);
        x.read(0, 4, 3);
        x.read(0, 3, 3);
        brokenRow("the last, or a miss", x, 0, 0, 0, 0, 1);
        x.watch(4);
        x.read(2, 1, 0);
        x.read(3, 1, 0);
        brokenRow("another branch, or the one ahead of it", x, 0, 1, 1, 1, 1);
        x.watch(4);
        x.read(0, 4, 4);
        x.read(1, 4, 4);
        brokenRow("none", x, 0, 0, 0, 0, 0);
        due("no question", x.question(0, 0), NONE);
    }

    private static void watch() {
        says("WATCH of N PULSES; all READ is gone: how many DIALS. NONE for others.");
        HallClock x = new HallClock();
        due("no dials", x.watch(10), 0);
        x.branch(NONE);
        for (int d = 0; d < 16; d++) x.dial(0, false, 0, 0);
        due("sixteen", x.watch(1), 16);
        x.read(15, 1, 5);
        due("read", x.about(7), 1);
        int[] others = {0, -1, 11, Edge.LEAST, Edge.MOST};
        for (int n : others) due("watch(" + n + ")", x.watch(n), NONE);
        due("N stays", x.about(8), 1);
        due("what was read stays", x.about(7), 1);
        due("and what it tells", x.fewest(0), NONE);
        due("anew", x.watch(10), 16);
        due("N", x.about(8), 10);
        due("nothing read", x.about(7), 0);
        due("fewest", x.fewest(0), 0);
    }

    private static void read() {
        says("READ (pulse 0 .. N): how many are. NONE for others, without WATCH, or if there are 30.");
        HallClock x = Edge.plain(0, 0);
        due("without watch", x.read(0, 0, 0), NONE);
        due("none is", x.about(7), 0);
        x.watch(5);
        due("dial -1", x.read(-1, 0, 0), NONE);
        due("dial 2", x.read(2, 0, 0), NONE);
        due("pulse -1", x.read(0, -1, 0), NONE);
        due("pulse 6", x.read(0, 6, 0), NONE);
        due("hands -1", x.read(0, 0, -1), NONE);
        due("hands 720", x.read(0, 0, 720), NONE);
        due("none is", x.about(7), 0);
        due("pulse 0", x.read(0, 0, 0), 1);
        due("pulse 5", x.read(1, 5, 5), 2);
        due("fewest", x.fewest(0), 0);
        due("hands 719", x.read(1, 4, 719), 3);
        due("fewest", x.fewest(0), NONE);
        x = Edge.plain(719);
        x.watch(1);
        due("hands 0", x.read(0, 1, 0), 1);
        due("the same again is one more", x.read(0, 1, 0), 2);
        due("fewest", x.fewest(0), 0);
    }

    private static void fewest() {
        says("THE FEWEST as KNOWN (0 .. 399): how many MISHAPS. NONE: it can't be EXPLAINED, for others, and without WATCH.");
        HallClock x = Edge.plain(0);
        due("without watch", x.fewest(0), NONE);
        x.watch(1);
        due("0", x.fewest(0), 0);
        due("399", x.fewest(399), 0);
        int[] others = {-1, 400, Edge.LEAST, Edge.MOST};
        for (int k : others) due("known " + k, x.fewest(k), NONE);
        x.read(0, 1, 5);
        due("it can't be", x.fewest(0), NONE);
    }

    private static void broken() {
        says("2 SURE, 1 MAY BE, 0 NOT. NONE: it can't be EXPLAINED, for others (PULSES 1 .. N), and without WATCH.");
        HallClock x = Edge.plain(0, 0);
        due("without watch", x.broken(0, 0, 1), NONE);
        x.watch(3);
        x.read(0, 3, 0);
        due("pulse 0", x.broken(0, 0, 0), NONE);
        due("pulse 1", x.broken(0, 0, 1), 2);
        due("pulse 3", x.broken(0, 0, 3), 2);
        due("pulse 4", x.broken(0, 0, 4), NONE);
        due("branch -1", x.broken(0, -1, 1), NONE);
        due("branch 1", x.broken(0, 1, 1), NONE);
        due("known -1", x.broken(-1, 0, 1), NONE);
        due("known 399", x.broken(399, 0, 1), 2);
        due("known 400", x.broken(400, 0, 1), NONE);
        int[] wild = {Edge.LEAST, Edge.MOST};
        for (int w : wild) {
            due("known " + w, x.broken(w, 0, 1), NONE);
            due("branch " + w, x.broken(0, w, 1), NONE);
            due("pulse " + w, x.broken(0, 0, w), NONE);
        }
        x.read(0, 0, 3);
        due("it can't be", x.broken(0, 0, 1), NONE);
        x.watch(3);
        due("nothing read", x.broken(0, 0, 1), 0);
    }

    private static void question() {
        says("THE QUESTION as KNOWN: 0 the DIAL, 1 the PULSE, 2 how many unlike HANDS. NONE: none, for others, and without WATCH.");
        HallClock x = Edge.plain(0, 0);
        for (int what = 0; what < 3; what++) due("without watch", x.question(0, what), NONE);
        x.watch(3);
        x.read(0, 3, 2);
        x.read(1, 3, 2);
        int[] due = {0, 1, 2};
        for (int what = 0; what < 3; what++) {
            due("what " + what, x.question(0, what), due[what]);
            due("what " + what + " on the last day", x.question(399, what), due[what]);
            due("known -1", x.question(-1, what), NONE);
            due("known 400", x.question(400, what), NONE);
        }
        int[] others = {-1, 3, Edge.LEAST, Edge.MOST};
        for (int what : others) due("what " + what, x.question(0, what), NONE);
        x.read(1, 0, 1);
        for (int what = 0; what < 3; what++) due("it can't be explained", x.question(0, what), NONE);
    }

    /** All that there can be at once: eight branches, sixteen dials, ten pulses, thirty readings. */
    private static void fullWatch() {
        says("N PULSES (1 .. 10)");
        HallClock x = new HallClock();
        for (int b = 0; b < 8; b++) x.branch(b - 1);
        for (int d = 0; d < 16; d++) x.dial(d / 2, false, 715, 1);
        due("dials", x.watch(10), 16);
        for (int d = 0; d < 16; d++) x.read(d, 10, (715 + (d < 4 ? 10 : d < 10 ? 7 : 5)) % 720);
        due("a break of 2, a break of 5", x.fewest(0), 2);
        due("of 2 at 1", x.broken(0, 2, 1), 1);
        due("of 1", x.broken(0, 1, 5), 0);
        due("of 5 at 10", x.broken(0, 5, 10), 1);
        due("of 7", x.broken(0, 7, 10), 0);
        for (int d = 0; d < 14; d++) x.read(d, 1, 716);
        due("read", x.about(7), 30);
        due("fewest", x.fewest(0), 2);
        due("of 2 at 1", x.broken(0, 2, 1), 0);
        due("of 2 at 2", x.broken(0, 2, 2), 1);
    }
}
