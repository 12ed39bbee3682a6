/** Each sentence about the clock, its branches and its dials that names an edge (terms I, promises 1 to 14). */
public final class EdgesClockTest {
    private static final int NONE = Edge.NONE;

    private static void says(String words) { Edge.says(words); }
    private static void due(String what, int got, int want) { Edge.due(what, got, want); }
    private static void yes(String what, boolean got) { Edge.yes(what, got); }
    private static void no(String what, boolean got) { Edge.no(what, got); }

    public static void main(String[] args) {
        callsOfOneObject();
        minutesOfAll();
        signByTurns();
        stoppedOrNot();
        breakAhead();
        branchBehindWhich();
        heldDoesNothing();
        turnedAndLast();
        handsGoOn();
        skipIntoCount();
        bounceIntoCount();
        skipAheadOfBounce();
        wearOfManyPulses();
        behindAndRight();
        quickPulses();
        storms();
        newObject();
        branches();
        dials();
        worn();
        hang();
        set();
        cut();
        hold();
        stop();
        minutes();
        quick();
        storm();
        at();
        wrong();
        Edge.close("the edges of clock, branches and dials hold");
    }

    private static void callsOfOneObject() {
        says("An object is used for at most 512 calls after it has been made");
        HallClock x = Edge.plain(0);
        for (int i = 3; i < 512; i++) x.minutes(1);
        due("the 512th call", x.at(0, 2), 509);
    }

    private static void minutesOfAll() {
        says("THE MINUTE m: true, from 0 on (0 .. 575999: 400 DAYS of 1440; at first 0)");
        HallClock x = new HallClock();
        due("at first", x.about(0), 0);
        due("one more", x.minutes(1), 1);
        for (int i = 1; i <= 57; i++) due("ten thousand more", x.minutes(10000), 10000 * i + 1);
        due("the last but one", x.minutes(5997), 575998);
        due("the last", x.minutes(1), 575999);
        due("beyond", x.minutes(1), NONE);
        due("m", x.about(0), 575999);
    }

    private static void signByTurns() {
        says("THE SIGN is that of the next one (0 or 1; at first 0)");
        HallClock x = Edge.plain(0);
        due("at first", x.about(1), 0);
        due("the dial's own", x.at(0, 1), 1);
        for (int i = 1; i <= 4; i++) {
            x.minutes(1);
            due("behind pulse " + i, x.about(1), i % 2);
            due("the dial's last", x.at(0, 1), 1 - i % 2);
        }
        x.minutes(10000);
        due("behind an even number", x.about(1), 0);
        x.minutes(9999);
        due("behind an odd one", x.about(1), 1);
        due("the dial's last", x.at(0, 1), 0);
    }

    private static void stoppedOrNot() {
        says("if THE MASTER isn't STOPPED, a PULSE goes out; THE SIGN is the other one then");
        HallClock x = Edge.plain(0);
        x.minutes(1);
        x.stop(true);
        due("m goes on", x.minutes(1), 2);
        due("the sign stays", x.about(1), 1);
        due("hands stay", x.at(0, 0), 1);
        due("count stays", x.at(0, 2), 1);
        due("last stays", x.at(0, 1), 0);
        x.stop(false);
        due("m goes on", x.minutes(1), 3);
        due("the sign is the other one", x.about(1), 0);
        due("hands go on", x.at(0, 0), 2);
    }

    private static void breakAhead() {
        says("A PULSE comes to a BRANCH if neither it nor any ahead of it is BROKEN");
        for (int b = 0; b < 8; b++) {
            HallClock x = Edge.chain();
            x.cut(b, true);
            x.minutes(1);
            for (int d = 0; d < 8; d++) {
                due("break of " + b + ", pulses to " + d, x.at(d, 6), d < b ? 1 : 0);
                due("break of " + b + ", hands of " + d, x.at(d, 0), d < b ? 1 : 0);
            }
            x.cut(b, false);
            x.minutes(1);
            due("mended", x.at(7, 6), 1);
            due("mended, hands of 7", x.at(7, 0), 1);
        }
        HallClock x = Edge.chain();
        x.cut(2, true);
        x.cut(5, true);
        x.cut(2, false);
        due("ahead of the other break", x.at(4, 6), 1);
        due("behind the other break", x.at(6, 6), 0);
    }

    private static void branchBehindWhich() {
        says("BRANCHES 0 .. 7: from the hall or behind another one");
        HallClock x = new HallClock();
        x.branch(NONE);
        x.branch(0);
        x.branch(0);
        x.branch(NONE);
        x.branch(2);
        for (int b = 0; b < 5; b++) x.dial(b, false, 0, 1);
        x.cut(2, true);
        int[] comes = {1, 1, 0, 1, 0};
        for (int b = 0; b < 5; b++) due("pulses to " + b, x.at(b, 6), comes[b]);
        x.cut(0, true);
        due("beside a break", x.at(3, 6), 1);
        due("behind both", x.at(1, 6), 0);
    }

    private static void heldDoesNothing() {
        says("HELD, it does nothing at all");
        HallClock x = Edge.plain(5);
        x.dial(0, true, 5, 1);
        x.hold(0, true);
        x.hold(1, true);
        x.minutes(1);
        x.quick(1);
        x.storm(0, 0);
        for (int d = 0; d < 2; d++) {
            due("hands of " + d, x.at(d, 0), 5);
            due("last of " + d, x.at(d, 1), 1);
            due("count of " + d, x.at(d, 2), 0);
        }
        x.hold(1, false);
        x.minutes(1);
        due("let go, its last still is another than the pulse's sign", x.at(1, 0), 6);
        due("the one that is held still", x.at(0, 0), 5);
    }

    private static void turnedAndLast() {
        says("A TURNED one whose LAST is the PULSE's SIGN does nothing");
        for (int last = 0; last < 2; last++) {
            HallClock x = new HallClock();
            x.branch(NONE);
            x.dial(0, true, 9, last);
            x.dial(0, false, 9, last);
            x.minutes(1);
            due("turned, last " + last, x.at(0, 0), 9 + last);
            due("its count", x.at(0, 2), last);
            due("its last", x.at(0, 1), 0);
            due("plain, last " + last, x.at(1, 0), 10);
            due("its count", x.at(1, 2), 1);
            due("its last", x.at(1, 1), 0);
            x.minutes(1);
            due("turned, the second", x.at(0, 0), 10 + last);
            due("its last", x.at(0, 1), 1);
            x.quick(7);
            due("turned, seven more", x.at(0, 2), 8 + last);
            due("its last", x.at(0, 1), 0);
        }
    }

    private static void handsGoOn() {
        says("its COUNT is one more (at first 0), HANDS go on by 1 (719 to 0)");
        HallClock x = Edge.plain(717, 718, 719, 0);
        for (int d = 0; d < 4; d++) due("count at first", x.at(d, 2), 0);
        x.minutes(1);
        int[] hands = {718, 719, 0, 1};
        for (int d = 0; d < 4; d++) {
            due("hands of " + d, x.at(d, 0), hands[d]);
            due("count of " + d, x.at(d, 2), 1);
        }
        x.minutes(719);
        due("one less than all the way round", x.at(3, 0), 0);
        x.minutes(1);
        due("and on", x.at(3, 0), 1);
        due("count", x.at(3, 2), 721);
    }

    private static void skipIntoCount() {
        says("but by 0, if SKIP isn't 0 and goes into COUNT");
        HallClock x = Edge.plain(0, 0, 0, 0);
        x.worn(0, 0, 0);
        x.worn(1, 1, 0);
        x.worn(2, 3, 0);
        x.worn(3, 999, 0);
        int[] third = {1, 2, 2, 3, 4, 4, 5};
        for (int i = 0; i < third.length; i++) {
            x.quick(1);
            due("skip 0 at " + (i + 1), x.at(0, 0), i + 1);
            due("skip 1 at " + (i + 1), x.at(1, 0), 0);
            due("skip 3 at " + (i + 1), x.at(2, 0), third[i]);
        }
        due("count goes on with skip 1", x.at(1, 2), 7);
        due("last goes on with skip 1", x.at(1, 1), 0);
        x.quick(991);
        due("skip 999 at 998", x.at(3, 0), 998 - 720);
        x.quick(1);
        due("skip 999 at 999", x.at(3, 0), 998 - 720);
        x.quick(1);
        due("skip 999 at 1000", x.at(3, 0), 999 - 720);
    }

    private static void bounceIntoCount() {
        says("else by 2, if BOUNCE isn't 0 and goes into COUNT");
        HallClock x = Edge.plain(0, 717, 718, 719, 0);
        for (int d = 1; d < 4; d++) x.worn(d, 0, 1);
        x.worn(4, 0, 999);
        x.quick(1);
        int[] hands = {1, 719, 0, 1, 1};
        for (int d = 0; d < 5; d++) due("hands of " + d, x.at(d, 0), hands[d]);
        x.quick(997);
        due("bounce 999 at 998", x.at(4, 0), 998 - 720);
        x.quick(1);
        due("bounce 999 at 999", x.at(4, 0), 1000 - 720);
        x.quick(1);
        due("bounce 999 at 1000", x.at(4, 0), 1001 - 720);
        due("a bounce is one of count", x.at(1, 2), 1000);
        x = Edge.plain(0);
        x.worn(0, 0, 4);
        int[] fourth = {1, 2, 3, 5, 6, 7, 8, 10};
        for (int i = 0; i < fourth.length; i++) {
            x.quick(1);
            due("bounce 4 at " + (i + 1), x.at(0, 0), fourth[i]);
        }
    }

    private static void skipAheadOfBounce() {
        says("if SKIP isn't 0 and goes into COUNT; else by 2, if BOUNCE isn't 0 and goes into COUNT");
        HallClock x = Edge.plain(0, 0, 0);
        x.worn(0, 4, 6);
        x.worn(1, 1, 1);
        x.worn(2, 2, 1);
        int[] both = {1, 2, 3, 3, 4, 6, 7, 7, 8, 9, 10, 10, 11};
        int[] even = {2, 2, 4, 4, 6, 6, 8, 8, 10, 10, 12, 12, 14};
        for (int i = 0; i < both.length; i++) {
            x.quick(1);
            due("skip 4, bounce 6 at " + (i + 1), x.at(0, 0), both[i]);
            due("skip 1, bounce 1 at " + (i + 1), x.at(1, 0), 0);
            due("skip 2, bounce 1 at " + (i + 1), x.at(2, 0), even[i]);
        }
    }

    /** Many pulses at once do what as many calls of one pulse do. */
    private static void wearOfManyPulses() {
        says("QUICK PULSES: so many PULSES at once");
        int[][] wear = {{2, 3}, {3, 2}, {6, 4}, {7, 7}, {0, 5}, {5, 0}, {998, 999}, {12, 18}};
        for (int[] w : wear) {
            HallClock one = Edge.turned(700);
            HallClock all = Edge.turned(700);
            one.worn(0, w[0], w[1]);
            all.worn(0, w[0], w[1]);
            for (int i = 0; i < 50; i++) one.quick(1);
            all.quick(50);
            for (int what = 0; what < 4; what++) due("skip " + w[0] + ", bounce " + w[1], all.at(0, what), one.at(0, what));
            for (int i = 0; i < 37; i++) one.minutes(1);
            all.minutes(37);
            for (int what = 0; what < 4; what++) due("skip " + w[0] + ", bounce " + w[1], all.at(0, what), one.at(0, what));
        }
    }

    private static void behindAndRight() {
        says("BEHIND: how many minutes HANDS lack to m mod 720 (0 .. 719)");
        HallClock x = Edge.plain(0, 1, 719);
        x.hold(0, true);
        x.hold(1, true);
        x.hold(2, true);
        int[][] behind = {{0, 0, 719, 1}, {1, 1, 0, 2}, {2, 2, 1, 3}, {718, 718, 717, 719}, {719, 719, 718, 0}, {720, 0, 719, 1},
            {721, 1, 0, 2}, {1439, 719, 718, 0}, {1440, 0, 719, 1}, {575999, 719, 718, 0}};
        for (int[] row : behind) {
            Edge.to(x, row[0]);
            for (int d = 0; d < 3; d++) due("at minute " + row[0] + ", dial " + d, x.at(d, 3), row[1 + d]);
        }
        says("RIGHT: BEHIND 0");
        x = Edge.plain(0, 1, 719);
        due("dials not right", x.wrong(), 2);
        x.set(1, 0);
        due("one less", x.wrong(), 1);
        x.set(2, 0);
        due("none", x.wrong(), 0);
    }

    private static void quickPulses() {
        says("QUICK PULSES: so many PULSES at once, SIGNS by turns; m stays");
        HallClock x = Edge.plain(0);
        x.minutes(10);
        due("one", x.quick(1), 1);
        due("m", x.about(0), 10);
        due("last", x.at(0, 1), 0);
        due("two", x.quick(2), 1);
        due("last", x.at(0, 1), 0);
        due("three", x.quick(3), 0);
        due("last", x.at(0, 1), 1);
        due("m", x.about(0), 10);
        due("hands", x.at(0, 0), 16);
        due("behind", x.at(0, 3), 714);
        x.stop(true);
        due("the master may be stopped", x.quick(5), 1);
        due("hands", x.at(0, 0), 21);
    }

    private static void storms() {
        says("a PULSE of a SIGN begins there and comes to it, if it isn't BROKEN, and to those behind it as above; THE SIGN stays");
        for (int b = 0; b < 8; b++) {
            HallClock x = Edge.chain();
            due("on " + b, x.storm(b, 0), 8 - b);
            due("the sign", x.about(1), 0);
            due("m", x.about(0), 0);
            for (int d = 0; d < 8; d++) {
                due("on " + b + ", hands of " + d, x.at(d, 0), d < b ? 0 : 1);
                due("on " + b + ", last of " + d, x.at(d, 1), d < b ? 1 : 0);
            }
        }
        HallClock x = Edge.chain();
        x.cut(3, true);
        due("on a broken one", x.storm(3, 1), 0);
        due("behind the break", x.storm(4, 1), 4);
        due("ahead of the break", x.storm(2, 1), 1);
        due("far ahead of the break", x.storm(0, 1), 3);
        due("the sign", x.about(1), 0);
        x.minutes(1);
        due("the sign of the next one", x.about(1), 1);
        due("storm of 0 now", x.storm(0, 0), 3);
        due("the sign stays", x.about(1), 1);
    }

    private static void newObject() {
        says("No BRANCHES, no DIALS, no WATCH; THE IMAGE is this");
        HallClock x = new HallClock();
        due("branches", x.about(3), 0);
        due("dials", x.about(4), 0);
        due("strips", x.about(5), 0);
        due("the strip", x.about(6), NONE);
        due("read", x.about(7), 0);
        due("watch", x.about(8), 0);
        due("tape", x.about(9), 0);
        due("branch 0", x.about(20), NONE);
        due("dial 0", x.at(0, 0), NONE);
        due("fewest", x.fewest(0), NONE);
        due("rounds of nothing", x.rounds(0, NONE), 0);
        x.branch(NONE);
        x.dial(0, true, 1, 1);
        x.watch(1);
        x.stop(true);
        x.minutes(9);
        x.quick(1);
        x.strip();
        x.by(0);
        due("back", x.back(), 0);
        int[] about = {0, 0, 0, 0, 0, 0, NONE, 0, 0, 0};
        for (int what = 0; what < about.length; what++) due("about " + what, x.about(what), about[what]);
        due("dial 0", x.at(0, 0), NONE);
        due("fewest", x.fewest(0), NONE);
    }

    private static void branches() {
        says("A BRANCH (from NONE: from the hall): its number. NONE for others, or if there are 8.");
        HallClock x = new HallClock();
        due("behind one that isn't", x.branch(0), NONE);
        due("from -2", x.branch(-2), NONE);
        due("how many", x.about(3), 0);
        due("the first", x.branch(NONE), 0);
        due("behind itself", x.branch(1), NONE);
        for (int b = 1; b < 7; b++) due("number", x.branch(b - 1), b);
        due("how many", x.about(3), 7);
        due("behind the one to be", x.branch(7), NONE);
        due("the 8th", x.branch(6), 7);
        due("the 9th from the hall", x.branch(NONE), NONE);
        due("the 9th behind the first", x.branch(0), NONE);
        due("the 9th behind the last", x.branch(7), NONE);
        due("how many", x.about(3), 8);
        due("the 8th is not broken", x.about(27), 0);
    }

    private static void dials() {
        says("A DIAL: its number. NONE for others, or if there are 16.");
        HallClock x = new HallClock();
        due("without branches", x.dial(0, false, 0, 0), NONE);
        x.branch(NONE);
        x.branch(0);
        due("branch -1", x.dial(-1, false, 0, 0), NONE);
        due("branch 2", x.dial(2, false, 0, 0), NONE);
        due("hands -1", x.dial(0, false, -1, 0), NONE);
        due("hands 720", x.dial(0, false, 720, 0), NONE);
        due("last -1", x.dial(0, false, 0, -1), NONE);
        due("last 2", x.dial(0, false, 0, 2), NONE);
        due("none is there", x.about(4), 0);
        due("the least", x.dial(0, false, 0, 0), 0);
        due("the most", x.dial(1, true, 719, 1), 1);
        int[] least = {0, 0, 0, 0, 0, 0, 1};
        int[] most = {719, 1, 0, 1, 1, 0, 1};
        for (int what = 0; what < 7; what++) {
            due("the least, " + what, x.at(0, what), least[what]);
            due("the most, " + what, x.at(1, what), most[what]);
        }
        for (int d = 2; d < 15; d++) due("number", x.dial(0, false, 1, 0), d);
        due("the 16th", x.dial(1, false, 2, 0), 15);
        due("the 17th", x.dial(0, false, 0, 0), NONE);
        due("how many", x.about(4), 16);
        due("the 16th's hands", x.at(15, 0), 2);
        due("no 17th", x.at(16, 0), NONE);
    }

    private static void worn() {
        says("SKIP, BOUNCE (0 .. 999) of a DIAL: true. False for others.");
        HallClock x = Edge.plain(0, 0);
        no("skip -1", x.worn(0, -1, 0));
        no("skip 1000", x.worn(0, 1000, 0));
        no("bounce -1", x.worn(0, 0, -1));
        no("bounce 1000", x.worn(0, 0, 1000));
        no("dial -1", x.worn(-1, 1, 1));
        no("dial 2", x.worn(2, 1, 1));
        x.quick(999);
        due("none of them is worn: " + 0, x.at(0, 0), 999 - 720);
        due("none of them is worn: " + 1, x.at(1, 0), 999 - 720);
        yes("0, 0", x.worn(0, 0, 0));
        yes("999, 0", x.worn(0, 999, 0));
        yes("0, 999", x.worn(0, 0, 999));
        yes("999, 999", x.worn(1, 999, 999));
        yes("the same again", x.worn(1, 999, 999));
        x.quick(999);
        due("bounces at 1998", x.at(0, 0), 1999 % 720);
        due("skips at 1998", x.at(1, 0), 1997 % 720);
        due("count is as it would be", x.at(1, 2), 1998);
        yes("no more", x.worn(1, 0, 0));
        x.quick(999);
        due("nothing at 2997", x.at(1, 0), 2996 % 720);
    }

    private static void hang() {
        says("A DIAL comes to a BRANCH; HANDS as they are: true. False for others.");
        HallClock x = Edge.chain();
        no("dial -1", x.hang(-1, 0));
        no("dial 8", x.hang(8, 0));
        no("branch NONE", x.hang(0, NONE));
        no("branch 8", x.hang(0, 8));
        due("it is where it was", x.at(0, 4), 0);
        x.minutes(3);
        x.hold(0, true);
        x.worn(0, 2, 0);
        x.cut(7, true);
        yes("to the last branch", x.hang(0, 7));
        int[] due = {3, 0, 3, 0, 7, 1, 0};
        for (int what = 0; what < 7; what++) due("of the dial, " + what, x.at(0, what), due[what]);
        yes("to the first", x.hang(7, 0));
        due("pulses come to it now", x.at(7, 6), 1);
        x.hold(0, false);
        x.cut(7, false);
        x.minutes(1);
        due("it is worn as it was", x.at(0, 0), 3);
    }

    private static void set() {
        says("HANDS of a DIAL are set: true. False for others.");
        HallClock x = Edge.plain(300, 300);
        x.minutes(1);
        no("hands -1", x.set(0, -1));
        no("hands 720", x.set(0, 720));
        no("dial -1", x.set(-1, 5));
        no("dial 2", x.set(2, 5));
        due("as they were", x.at(0, 0), 301);
        yes("0", x.set(0, 0));
        due("hands", x.at(0, 0), 0);
        yes("719", x.set(1, 719));
        due("hands", x.at(1, 0), 719);
        due("last", x.at(1, 1), 0);
        due("count", x.at(1, 2), 1);
        yes("719 again", x.set(1, 719));
        x.hold(1, true);
        yes("of one that is held", x.set(1, 718));
        due("hands", x.at(1, 0), 718);
    }

    private static void cut() {
        says("A BRANCH is BROKEN, or mended: true. False for others, and so already.");
        HallClock x = Edge.chain();
        for (int b = 0; b < 8; b += 7) {
            no("mended already", x.cut(b, false));
            due("whole", x.about(20 + b), 0);
            yes("broken", x.cut(b, true));
            no("broken already", x.cut(b, true));
            due("broken", x.about(20 + b), 1);
            yes("mended", x.cut(b, false));
            no("mended again", x.cut(b, false));
            due("whole", x.about(20 + b), 0);
        }
        no("branch -1", x.cut(-1, true));
        no("branch 8", x.cut(8, true));
        no("branch -1, mended", x.cut(-1, false));
        no("branch 8, mended", x.cut(8, false));
    }

    private static void hold() {
        says("A DIAL is HELD, or let go: true. False for others, and so already.");
        HallClock x = Edge.plain(0, 0);
        for (int d = 0; d < 2; d++) {
            no("let go already", x.hold(d, false));
            due("free", x.at(d, 5), 0);
            yes("held", x.hold(d, true));
            no("held already", x.hold(d, true));
            due("held", x.at(d, 5), 1);
            yes("let go", x.hold(d, false));
            due("free", x.at(d, 5), 0);
        }
        no("dial -1", x.hold(-1, true));
        no("dial 2", x.hold(2, true));
        no("dial -1, let go", x.hold(-1, false));
        no("dial 2, let go", x.hold(2, false));
    }

    private static void stop() {
        says("THE MASTER is STOPPED, or not: true. False: so already.");
        HallClock x = new HallClock();
        no("runs at first", x.stop(false));
        due("runs", x.about(2), 0);
        yes("stopped", x.stop(true));
        no("stopped already", x.stop(true));
        due("stopped", x.about(2), 1);
        yes("runs again", x.stop(false));
        no("runs already", x.stop(false));
        due("runs", x.about(2), 0);
    }

    private static void minutes() {
        says("n minutes go by (1 .. 10000): m. NONE for others, or beyond 575999.");
        HallClock x = Edge.plain(0);
        int[] others = {0, -1, 10001, Edge.LEAST, Edge.MOST};
        for (int n : others) due("minutes(" + n + ")", x.minutes(n), NONE);
        due("m", x.about(0), 0);
        due("sign", x.about(1), 0);
        due("hands", x.at(0, 0), 0);
        due("the least", x.minutes(1), 1);
        due("the most but one", x.minutes(9999), 10000);
        due("the most", x.minutes(10000), 20000);
        for (int i = 3; i <= 57; i++) x.minutes(10000);
        due("beyond by 4001", x.minutes(10000), NONE);
        due("beyond by one", x.minutes(6000), NONE);
        due("m", x.about(0), 570000);
        due("count", x.at(0, 2), 570000);
        due("sign", x.about(1), 0);
        due("to the last", x.minutes(5999), 575999);
        due("count", x.at(0, 2), 575999);
        due("beyond the last", x.minutes(1), NONE);
        due("far beyond the last", x.minutes(10000), NONE);
        due("sign", x.about(1), 1);
        due("quick pulses still go out", x.quick(1), 0);
    }

    private static void quick() {
        says("n QUICK PULSES (1 .. 1440): THE SIGN then. NONE for others.");
        HallClock x = Edge.plain(0);
        int[] others = {0, -1, 1441, Edge.LEAST, Edge.MOST};
        for (int n : others) due("quick(" + n + ")", x.quick(n), NONE);
        due("sign", x.about(1), 0);
        due("count", x.at(0, 2), 0);
        due("the least", x.quick(1), 1);
        due("the most but one", x.quick(1439), 0);
        due("count", x.at(0, 2), 1440);
        due("the most", x.quick(1440), 0);
        due("count", x.at(0, 2), 2880);
        due("hands", x.at(0, 0), 0);
        due("m", x.about(0), 0);
    }

    private static void storm() {
        says("A STORM: how many DIALS did something. NONE for others.");
        HallClock x = new HallClock();
        due("without branches", x.storm(0, 0), NONE);
        x.branch(NONE);
        due("without dials", x.storm(0, 0), 0);
        for (int d = 0; d < 16; d++) x.dial(0, d % 2 == 0, 0, 0);
        due("branch -1", x.storm(-1, 0), NONE);
        due("branch 1", x.storm(1, 0), NONE);
        due("sign -1", x.storm(0, -1), NONE);
        due("sign 2", x.storm(0, 2), NONE);
        due("no dial did anything", x.at(15, 2), 0);
        due("turned ones have that sign", x.storm(0, 0), 8);
        due("the other sign", x.storm(0, 1), 16);
        due("again", x.storm(0, 1), 8);
        x.hold(1, true);
        due("one of the plain ones is held", x.storm(0, 1), 7);
        x.worn(3, 1, 0);
        due("one that skips does something", x.storm(0, 1), 7);
        x.stop(true);
        due("the master may be stopped", x.storm(0, 0), 15);
    }

    private static void at() {
        says("Of a DIAL: 0 HANDS, 1 LAST, 2 COUNT, 3 BEHIND, 4 its BRANCH, 5 whether HELD (1, 0), 6 whether PULSES come to its BRANCH");
        HallClock x = Edge.chain();
        x.minutes(1);
        x.cut(7, true);
        x.hold(7, true);
        x.minutes(2);
        int[] first = {3, 0, 3, 0, 0, 0, 1};
        int[] last = {1, 0, 1, 2, 7, 1, 0};
        for (int what = 0; what < 7; what++) {
            due("of the first, " + what, x.at(0, what), first[what]);
            due("of the last, " + what, x.at(7, what), last[what]);
            due("of dial -1, " + what, x.at(-1, what), NONE);
            due("of dial 8, " + what, x.at(8, what), NONE);
        }
        due("what -1", x.at(0, -1), NONE);
        due("what 7", x.at(0, 7), NONE);
        due("what least", x.at(0, Edge.LEAST), NONE);
        due("what most", x.at(0, Edge.MOST), NONE);
    }

    private static void wrong() {
        says("How many DIALS aren't RIGHT");
        HallClock x = new HallClock();
        due("without dials", x.wrong(), 0);
        x.branch(NONE);
        for (int d = 0; d < 16; d++) x.dial(0, false, 719, 0);
        due("all", x.wrong(), 16);
        x.set(0, 0);
        due("all but the first", x.wrong(), 15);
        x.set(0, 719);
        x.set(15, 0);
        due("all but the last", x.wrong(), 15);
        x.cut(0, true);
        x.hold(3, true);
        due("broken and held ones too", x.wrong(), 15);
        x.quick(1);
        x.minutes(719);
        due("15 of them stood", x.wrong(), 1);
    }
}
