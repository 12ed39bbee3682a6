/** Each sentence about putting right that names an edge (terms III, promise 20). */
public final class EdgesRoundsTest {
    private static final int NONE = Edge.NONE;

    private static void says(String words) { Edge.says(words); }
    private static void due(String what, int got, int want) { Edge.due(what, got, want); }

    public static void main(String[] args) {
        lengthOfRounds();
        behindByAlmostAll();
        noHandsAndAllHands();
        handsInEachRound();
        handsInThreeRounds();
        fewestOfNone();
        dialsWithoutPulses();
        heldAreLetGo();
        nothingMoves();
        leastFirst();
        turnedInRounds();
        wornInRounds();
        signOfRounds();
        stoppedMaster();
        fullClock();
        turnedHeldInAnEvenRound();
        handsOfAllRoundsAtOnce();
        rounds();
        anewBehindChanges();
        Edge.close("the edges of putting right hold");
    }

    /** Right dials at minute 0 that are set back by so many minutes. */
    private static HallClock behind(int... minutes) {
        int[] hands = new int[minutes.length];
        for (int i = 0; i < hands.length; i++) hands[i] = Math.floorMod(-minutes[i], 720);
        return Edge.plain(hands);
    }

    private static void plan(String what, HallClock x, int h, int... lengths) {
        due(what + ": how many", x.rounds(h, NONE), lengths.length);
        for (int r = 0; r < 3; r++) due(what + ": round " + r, x.rounds(h, r), r < lengths.length ? lengths[r] : NONE);
    }

    private static void noPlan(String what, HallClock x, int h) {
        for (int r = NONE; r < 3; r++) due(what + ": round " + r, x.rounds(h, r), NONE);
    }

    private static void lengthOfRounds() {
        says("ROUNDS of 1 to 30 QUICK PULSES each");
        plan("none", behind(0), 0);
        plan("1", behind(1), 0, 1);
        plan("2", behind(2), 0, 2);
        plan("29", behind(29), 0, 29);
        plan("30", behind(30), 0, 30);
        plan("31", behind(31), 0, 1, 30);
        plan("32", behind(32), 0, 2, 30);
        plan("59", behind(59), 0, 29, 30);
        plan("60", behind(60), 0, 30, 30);
        plan("61", behind(61), 0, 1, 30, 30);
        plan("89", behind(89), 0, 29, 30, 30);
        plan("90", behind(90), 0, 30, 30, 30);
        noPlan("91", behind(91), 0);
        noPlan("91 with hands", behind(91), 15);
    }

    private static void behindByAlmostAll() {
        says("behind which all DIALS on BRANCHES to which PULSES come are RIGHT");
        noPlan("one minute ahead of time", behind(719), 15);
        noPlan("one right, one ahead of time", behind(0, 719), 15);
        HallClock x = Edge.plain(719);
        x.minutes(720);
        plan("719 at 720 went all the way round", x, 0, 1);
        x = Edge.plain(700);
        x.stop(true);
        x.minutes(10);
        plan("from 700 to 10 over 0", x, 0, 30);
        x.minutes(1);
        plan("from 700 to 11 over 0", x, 0, 1, 30);
    }

    private static void noHandsAndAllHands() {
        says("in a ROUND up to H (0 .. 15) of the DIALS can be HELD");
        noPlan("without hands", behind(0, 1), 0);
        plan("one hand", behind(0, 1), 1, 1);
        int[] minutes = new int[16];
        minutes[15] = 4;
        noPlan("14 hands for 15 dials", behind(minutes), 14);
        plan("15 hands for 15 dials", behind(minutes), 15, 4);
        minutes[15] = 0;
        minutes[0] = 4;
        noPlan("14 hands for the other 15", behind(minutes), 14);
        plan("15 hands for the other 15", behind(minutes), 15, 4);
    }

    private static void handsInEachRound() {
        says("in a ROUND up to H (0 .. 15) of the DIALS can be HELD");
        noPlan("two at once with one hand", behind(0, 0, 5), 1);
        plan("two at once with two", behind(0, 0, 5), 2, 5);
        plan("one hand in each of two rounds", behind(3, 5, 8), 1, 3, 5);
        plan("two hands: the same, as there must be two rounds", behind(3, 5, 8), 2, 3, 5);
        noPlan("3, 3, 5, 5, 8 with one hand", behind(3, 3, 5, 5, 8), 1);
        plan("3, 3, 5, 5, 8 with two", behind(3, 3, 5, 5, 8), 2, 3, 5);
    }

    private static void handsInThreeRounds() {
        says("FEWEST ROUNDS (0 to 3)");
        plan("one hand, held in the first and in the third", behind(3, 5, 6), 1, 1, 2, 3);
        plan("no fewer with more hands", behind(3, 5, 6), 15, 1, 2, 3);
        plan("1, 2, 4 by three", behind(1, 2, 4), 2, 1, 1, 2);
        noPlan("1, 2, 4 with one hand", behind(1, 2, 4), 1);
        noPlan("1, 2, 4, 8 are no sums of three", behind(1, 2, 4, 8), 15);
    }

    private static void fewestOfNone() {
        says("FEWEST ROUNDS (0 to 3)");
        plan("a clock without branches", new HallClock(), 0);
        plan("a clock without dials", Edge.plain(), 15);
        plan("all right", Edge.plain(0, 0, 0), 0);
        HallClock x = Edge.plain(0);
        Edge.to(x, 575999);
        plan("right at the last minute", x, 0);
        x.set(0, 718);
        plan("one behind at the last minute", x, 0, 1);
    }

    private static void dialsWithoutPulses() {
        says("all DIALS on BRANCHES to which PULSES come");
        HallClock x = new HallClock();
        x.branch(NONE);
        x.branch(0);
        x.branch(NONE);
        x.dial(0, false, 718, 1);
        x.dial(1, false, 400, 1);
        x.dial(2, false, 717, 1);
        noPlan("all three", x, 15);
        x.cut(1, true);
        noPlan("two, without hands", x, 0);
        plan("two", x, 1, 1, 2);
        x.cut(2, true);
        plan("the first alone", x, 0, 2);
        x.cut(0, true);
        plan("none", x, 0);
        x.cut(1, false);
        plan("one behind a broken one is none", x, 0);
        x.cut(2, false);
        plan("the last alone", x, 0, 3);
    }

    private static void heldAreLetGo() {
        says("(those HELD now are let go first; m stays)");
        HallClock x = behind(0, 4);
        x.hold(0, true);
        noPlan("a right one that is held now must be held then too", x, 0);
        plan("with one hand", x, 1, 4);
        x.hold(1, true);
        x.hold(0, false);
        plan("one that is held now goes on", x, 1, 4);
        due("it is held still", x.at(1, 5), 1);
        due("the other one isn't", x.at(0, 5), 0);
    }

    private static void nothingMoves() {
        says("m stays");
        HallClock x = behind(3, 5, 8);
        x.minutes(7);
        plan("asked at 7", x, 1, 3, 5);
        due("m", x.about(0), 7);
        due("sign", x.about(1), 1);
        int[] lacks = {3, 5, 8};
        for (int d = 0; d < 3; d++) {
            due("behind", x.at(d, 3), lacks[d]);
            due("count", x.at(d, 2), 7);
            due("last", x.at(d, 1), 0);
            due("held", x.at(d, 5), 0);
        }
    }

    private static void leastFirst() {
        says("of like ones that with the least first, then second, then third ROUND");
        plan("45", behind(45), 0, 15, 30);
        plan("75", behind(75), 0, 15, 30, 30);
        plan("3 and 5 with a hand", behind(3, 5), 1, 2, 3);
        plan("5 and 3 with a hand", behind(5, 3), 1, 2, 3);
        plan("30 and 60", behind(30, 60), 1, 30, 30);
        plan("30 and 61", behind(30, 61), 1, 1, 30, 30);
        plan("35 and 36", behind(35, 36), 1, 1, 5, 30);
    }

    private static void turnedInRounds() {
        says("ROUNDS of 1 to 30 QUICK PULSES each");
        HallClock x = new HallClock();
        x.branch(NONE);
        x.dial(0, true, 719, 1);
        plan("ready for the first sign", x, 0, 1);
        x.back();
        x.branch(NONE);
        x.dial(0, true, 719, 0);
        plan("not ready: one pulse more", x, 0, 2);
        x.set(0, 691);
        plan("29 of 30", x, 0, 30);
        x.set(0, 690);
        plan("30 of 31", x, 0, 1, 30);
        x.dial(0, false, 690, 0);
        noPlan("a plain one beside it, without hands", x, 0);
        plan("with a hand: the plain one is held in the first", x, 1, 1, 30);
    }

    private static void wornInRounds() {
        says("behind which all DIALS on BRANCHES to which PULSES come are RIGHT");
        HallClock x = behind(30);
        x.worn(0, 2, 0);
        plan("each second one skips: 59 pulses", x, 0, 29, 30);
        x.worn(0, 1, 0);
        noPlan("always skips", x, 15);
        x.set(0, 0);
        plan("always skips, but is right", x, 0);
        x = behind(180);
        x.worn(0, 0, 1);
        plan("always bounces: 90 pulses", x, 0, 30, 30, 30);
        x.set(0, 719);
        noPlan("always bounces: not by one", x, 15);
        x.set(0, 538);
        noPlan("always bounces: 182", x, 15);
        x = behind(3);
        x.worn(0, 0, 3);
        noPlan("it goes from 2 to 4", x, 15);
    }

    private static void signOfRounds() {
        says("ROUNDS of 1 to 30 QUICK PULSES each; in a ROUND up to H (0 .. 15) of the DIALS can be HELD");
        HallClock x = new HallClock();
        x.branch(NONE);
        x.dial(0, true, 716, 1);
        x.dial(0, false, 716, 1);
        plan("both by four", x, 0, 4);
        x.set(1, 715);
        // Held in an odd round, a turned one meets its own last sign behind it.
        plan("4 and 5, the turned one held in the second", x, 1, 4, 1);
        x.quick(1);
        due("the sign now", x.about(1), 1);
        plan("3 and 4", x, 1, 3, 1);
        plan("with two hands: the turned one does nothing at one of four", x, 2, 1, 4);
    }

    private static void stoppedMaster() {
        says("FEWEST ROUNDS (0 to 3)");
        HallClock x = behind(6);
        x.stop(true);
        plan("quick pulses go out though the master is stopped", x, 0, 6);
    }

    private static void fullClock() {
        says("in a ROUND up to H (0 .. 15)");
        HallClock x = new HallClock();
        for (int b = 0; b < 8; b++) x.branch(b - 1);
        for (int d = 0; d < 16; d++) x.dial(d / 2, false, d < 8 ? 690 : 660, 1);
        noPlan("eight to be held once in two rounds with three hands", x, 3);
        plan("four of them in each round", x, 4, 30, 30);
        plan("no fewer with more hands", x, 15, 30, 30);
    }

    private static void turnedHeldInAnEvenRound() {
        says("ROUNDS of 1 to 30 QUICK PULSES each; in a ROUND up to H (0 .. 15) of the DIALS can be HELD");
        HallClock x = new HallClock();
        x.branch(NONE);
        x.dial(0, true, 718, 0);
        x.dial(0, false, 715, 1);
        // Behind two pulses the sign is 0 again, and the one that was held does nothing at the first of three.
        plan("2 and 5", x, 1, 2, 3);
        x.quick(1);
        due("the turned one did nothing", x.at(0, 2), 0);
        plan("2 and 4, the turned one held in an odd round", x, 1, 1, 3);
    }

    private static void handsOfAllRoundsAtOnce() {
        says("in a ROUND up to H (0 .. 15) of the DIALS can be HELD");
        plan("3 is held in the third", behind(3, 4, 5, 6), 1, 1, 2, 3);
        plan("2 is held in the third, whose hands are all in use then, and 3 in another one", behind(2, 3, 4), 1, 1, 1, 2);
        plan("the same the other way round", behind(4, 3, 2), 1, 1, 1, 2);
        noPlan("of two that are 3 behind one would be held in the first and the second too", behind(3, 3, 4, 5, 6), 1);
        plan("with two hands", behind(3, 3, 4, 5, 6), 2, 1, 2, 3);
        plan("two of them", behind(3, 3, 6), 1, 3, 3);
        noPlan("three of them", behind(3, 3, 3, 6), 1);
        plan("three of them with two", behind(3, 3, 3, 6), 2, 3, 3);
        plan("four of them with two", behind(3, 3, 3, 3, 6), 2, 3, 3);
        noPlan("five of them with two", behind(3, 3, 3, 3, 3, 6), 2);
        plan("each of three rounds holds one", behind(6, 6, 6, 9), 1, 3, 3, 3);
        noPlan("not two", behind(6, 6, 6, 6, 9), 1);
        plan("each of three rounds holds two", behind(6, 6, 6, 6, 6, 6, 9), 2, 3, 3, 3);
        noPlan("not three", behind(6, 6, 6, 6, 6, 6, 6, 9), 2);
        plan("each is held in two of three", behind(3, 3, 3, 9), 2, 3, 3, 3);
        noPlan("with one hand", behind(3, 3, 3, 9), 1);
    }

    private static void rounds() {
        says("FEWEST ROUNDS with H: how many (round NONE), QUICK PULSES of a ROUND (0 .. 2)");
        HallClock x = behind(61);
        due("how many", x.rounds(0, NONE), 3);
        due("round 0", x.rounds(0, 0), 1);
        due("round 2", x.rounds(0, 2), 30);
        says("NONE: not by 3, if there is no such ROUND, and for others.");
        int[] others = {-2, 3, Edge.LEAST, Edge.MOST};
        for (int r : others) due("round " + r, x.rounds(0, r), NONE);
        int[] wild = {-1, 16, Edge.LEAST, Edge.MOST};
        for (int h : wild) {
            due("h " + h, x.rounds(h, NONE), NONE);
            due("h " + h, x.rounds(h, 0), NONE);
        }
        due("h 15", x.rounds(15, NONE), 3);
        x.set(0, 719);
        due("one round", x.rounds(15, NONE), 1);
        due("its second", x.rounds(15, 1), NONE);
        due("its third", x.rounds(15, 2), NONE);
        x.set(0, 0);
        due("no round", x.rounds(15, NONE), 0);
        due("its first", x.rounds(15, 0), NONE);
        x.set(0, 1);
        due("not by 3", x.rounds(15, NONE), NONE);
        due("its first", x.rounds(15, 0), NONE);
    }

    private static void anewBehindChanges() {
        says("FEWEST ROUNDS (0 to 3) behind which all DIALS");
        HallClock x = behind(9, 9);
        plan("nine", x, 2, 9);
        x.image();
        x.set(0, 712);
        plan("set", x, 2, 1, 8);
        x.set(0, 711);
        plan("set again", x, 2, 9);
        x.worn(1, 0, 1);
        noPlan("worn: by twos never 9", x, 2);
        x.worn(1, 1, 1);
        noPlan("worn: never", x, 2);
        x.back();
        plan("back", x, 2, 9);
        x.quick(1);
        plan("quick", x, 2, 8);
        x.storm(0, 0);
        plan("storm", x, 2, 7);
        x.stop(true);
        x.minutes(3);
        plan("minutes", x, 2, 10);
        x.dial(0, false, 0, 1);
        plan("one more dial, 3 behind", x, 2, 3, 7);
        x.branch(NONE);
        x.cut(1, true);
        x.hang(2, 1);
        plan("hung behind a break", x, 2, 10);
        x.cut(1, false);
        plan("mended", x, 2, 3, 7);
    }
}
