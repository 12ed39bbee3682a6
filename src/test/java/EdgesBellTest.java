/** Each sentence about bells, lateness and lessons that names an edge (terms IV, promises 26 to 31). */
public final class EdgesBellTest {
    private static final int NONE = Edge.NONE;

    private static void says(String words) { Edge.says(words); }
    private static void due(String what, int got, int want) { Edge.due(what, got, want); }

    public static void main(String[] args) {
        ringAndRest();
        noStripAtFirst();
        ringsInAnyOrder();
        lateNow();
        lateNearTheBeginning();
        lateByADial();
        lateOfTwo();
        lateNotBelowTheFirst();
        lateNotAboveTheLast();
        lessonFrom();
        lessonTo();
        lessonAtTheEnds();
        rings();
        next();
        nextWithin();
        nextToTheLast();
        nextByEachWord();
        often();
        together();
        togetherWithin();
        togetherOfOne();
        late();
        lesson();
        Edge.close("the edges of bells hold");
    }

    private static void ringAndRest() {
        says("if some ring ROW of it is so and no rest ROW");
        HallClock x = Edge.ringing("ring 0 when minute<2;ring 0 when minute=3;rest minute=1;ring 1 when 1=1;rest minute=4;");
        int[] zero = {1, 0, 0, 1, 0, 0};
        int[] one = {1, 0, 1, 1, 0, 1};
        for (int t = 0; t < 6; t++) {
            due("bell 0 at " + t, x.rings(0, t), zero[t]);
            due("bell 1 at " + t, x.rings(1, t), one[t]);
            due("bell 2 at " + t, x.rings(2, t), 0);
        }
        x = Edge.ringing("rest 1=1;ring 0 when 1=1;");
        due("a rest ahead of it", x.rings(0, 0), 0);
        x = Edge.ringing("ring 0 when 1=1;rest 1=1;");
        due("a rest behind it", x.rings(0, 0), 0);
        x = Edge.ringing("rest 1=2;");
        due("rests alone don't ring", x.rings(0, 0), 0);
    }

    private static void noStripAtFirst() {
        says("A BELL RINGS at a minute by THE STRIP (told; at first none: none rings)");
        HallClock x = new HallClock();
        Edge.type(x, "ring 0 when 1=1;");
        x.strip();
        due("the strip", x.about(6), NONE);
        due("rings", x.rings(0, 0), 0);
        due("next", x.next(0, 0), NONE);
        due("often", x.often(0, 0), 0);
        due("together", x.together(0, 0, 0), NONE);
        due("late", x.late(0, NONE), NONE);
        due("lesson", x.lesson(0, 0), NONE);
        x.by(0);
        due("rings", x.rings(0, 0), 1);
        due("next", x.next(0, 0), 0);
        due("often", x.often(0, 0), 1440);
        due("late", x.late(0, NONE), 0);
        due("lesson", x.lesson(0, 0), 1);
    }

    /** What was asked about one minute must not be left in the answer about another one. */
    private static void ringsInAnyOrder() {
        says("A BELL RINGS at a minute by THE STRIP");
        HallClock x = Edge.ringing("ring 0 when hour%2=0;ring 1 when day=3 or day=5;ring 2 when date%2=0 and minute<30;ring 3 when clock>=720;");
        int[] first = {3600, 3540, 3600, 59, 60, 119, 120, 1439, 1440, 2879, 2880, 10079, 10080, 0, 60, 0, 1440, 0, 575999, 0};
        long other = 12345;
        for (int i = 0; i < 110; i++) {
            other = (other * 1103515245 + 12345) % 2147483648L;
            int t = i < first.length ? first[i] : (int) (other % (i < 60 ? 4320 : 576000));
            due("hour at " + t, x.rings(0, t), t / 60 % 2 == 0 ? 1 : 0);
            due("day at " + t, x.rings(1, t), t / 1440 % 7 == 3 || t / 1440 % 7 == 5 ? 1 : 0);
            due("date at " + t, x.rings(2, t), t / 1440 % 2 == 0 && t % 60 < 30 ? 1 : 0);
            due("clock at " + t, x.rings(3, t), t % 1440 >= 720 ? 1 : 0);
        }
    }

    private static void lateNow() {
        says("LATE now for a BELL: how many minutes (0 .. 1439) since it last rang");
        HallClock x = Edge.ringing("ring 0 when date=1 and clock=10;ring 1 when clock=10;ring 2 when minute=10;");
        Edge.to(x, 1449);
        due("not yet", x.late(0, NONE), NONE);
        due("1439 ago, on the day ahead", x.late(1, NONE), 1439);
        due("59 ago", x.late(2, NONE), 59);
        x.minutes(1);
        for (int bell = 0; bell < 3; bell++) due("now, bell " + bell, x.late(bell, NONE), 0);
        x.minutes(1);
        for (int bell = 0; bell < 3; bell++) due("one ago, bell " + bell, x.late(bell, NONE), 1);
        x.minutes(1437);
        due("1438 ago", x.late(0, NONE), 1438);
        x.minutes(1);
        due("1439 ago", x.late(0, NONE), 1439);
        x.minutes(1);
        due("1440 ago", x.late(0, NONE), NONE);
        due("the other one rings again", x.late(1, NONE), 0);
    }

    private static void lateNearTheBeginning() {
        says("how many minutes (0 .. 1439) since it last rang");
        HallClock x = Edge.ringing("ring 0 when clock=0;ring 1 when clock=1439;");
        due("minute 0", x.late(0, NONE), 0);
        due("nothing ahead of minute 0", x.late(1, NONE), NONE);
        Edge.to(x, 1438);
        due("1438", x.late(0, NONE), 1438);
        due("nothing yet", x.late(1, NONE), NONE);
        x.minutes(1);
        due("1439", x.late(0, NONE), 1439);
        due("now", x.late(1, NONE), 0);
        Edge.to(x, 575999);
        due("at the last minute", x.late(0, NONE), 1439);
        due("at the last minute", x.late(1, NONE), 0);
    }

    /** A clock at a minute with one dial; bell 0 rings at each beginning of a day. */
    private static HallClock dialAt(int minute, int hands) {
        HallClock x = Edge.ringing("ring 0 when clock=0;ring 1 when clock=720;");
        x.stop(true);
        Edge.to(x, minute);
        x.branch(NONE);
        x.dial(0, false, Math.floorMod(hands, 720), 0);
        return x;
    }

    private static void lateByADial() {
        says("by a DIAL: the same at the minute nearest to m at which the DIAL's HANDS would be RIGHT");
        due("right", dialAt(2000, 2000).late(0, 0), 560);
        due("one behind", dialAt(2000, 1999).late(0, 0), 559);
        due("one ahead of time", dialAt(2000, 2001).late(0, 0), 561);
        due("359 behind", dialAt(2000, 1641).late(0, 0), 201);
        due("359 ahead of time", dialAt(2000, 2359).late(0, 0), 919);
        due("by m all the same", dialAt(2000, 2359).late(0, NONE), 560);
        due("behind over the bell: on the day ahead", dialAt(1500, 1439).late(0, 0), 1439);
        due("just at the bell", dialAt(1500, 1440).late(0, 0), 0);
        due("ahead of time to the bell", dialAt(1400, 1440).late(0, 0), 0);
        due("ahead of time, not to the bell", dialAt(1400, 1439).late(0, 0), 1439);
        HallClock x = dialAt(2000, 1999);
        x.hold(0, true);
        x.cut(0, true);
        due("held and broken", x.late(0, 0), 559);
    }

    private static void lateOfTwo() {
        says("(of two the one ahead)");
        due("360: the one ahead, 1640", dialAt(2000, 2360).late(0, 0), 200);
        due("361 behind is 359 ahead of time", dialAt(2000, 1639).late(0, 0), 919);
        due("361 ahead of time is 359 behind", dialAt(2000, 2361).late(0, 0), 201);
        due("360 at minute 360: minute 0", dialAt(360, 0).late(0, 0), 0);
    }

    private static void lateNotBelowTheFirst() {
        says("not below 0 nor above 575999 (then the other one)");
        due("not -1 but 719", dialAt(0, -1).late(0, 0), 719);
        due("not -360 but 360", dialAt(0, 360).late(0, 0), 360);
        due("0", dialAt(0, 0).late(0, 0), 0);
        due("1", dialAt(0, 1).late(0, 0), 1);
        due("not -1 but 719 at minute 1", dialAt(1, -1).late(0, 0), 719);
        due("0 at minute 1", dialAt(1, 0).late(0, 0), 0);
        due("not -1 but 719 at minute 358", dialAt(358, -1).late(0, 0), 719);
        due("719 is nearer at minute 360 anyway", dialAt(360, -1).late(0, 0), 719);
        due("not -1 but 719 at minute 359, where both are as far", dialAt(359, -1).late(0, 0), 719);
        due("0 at minute 359", dialAt(359, 0).late(0, 0), 0);
        due("bell 1 at 720, seen at 719", dialAt(0, -1).late(1, 0), NONE);
        due("720 at minute 361 is nearer than 0", dialAt(361, 0).late(1, 0), 0);
    }

    private static void lateNotAboveTheLast() {
        says("not below 0 nor above 575999 (then the other one)");
        due("575999 itself", dialAt(575999, 719).late(0, 0), 1439);
        due("not 576000 but 575280", dialAt(575999, 0).late(0, 0), 720);
        due("not 576000 but 575280, from 575998", dialAt(575998, 0).late(0, 0), 720);
        due("575999 from 575998", dialAt(575998, 719).late(0, 0), 1439);
        due("575999 from 575640", dialAt(575640, 719).late(0, 0), 1439);
        due("not 576000 but 575280, from 575640, where both are as far", dialAt(575640, 0).late(0, 0), 720);
        due("not 576000 but 575280, from 575641", dialAt(575641, 0).late(0, 0), 720);
        due("575998 from 575999", dialAt(575999, 718).late(0, 0), 1438);
        due("575640 from 575999", dialAt(575999, 360).late(0, 0), 1080);
        due("not 576358 but 575638, from 575999", dialAt(575999, 358).late(0, 0), 1078);
    }

    private static void lessonFrom() {
        says("from the last ring of the one (0 .. 1439 minutes ahead of m)");
        HallClock x = Edge.ringing("ring 0 when date=0 and clock=100;ring 1 when clock=130;");
        Edge.to(x, 99);
        due("not yet", x.lesson(0, 1), NONE);
        x.minutes(1);
        due("0 ahead", x.lesson(0, 1), 30);
        Edge.to(x, 129);
        due("in it", x.lesson(0, 1), 30);
        Edge.to(x, 131);
        due("behind it", x.lesson(0, 1), 30);
        Edge.to(x, 1538);
        due("1438 ahead", x.lesson(0, 1), 30);
        x.minutes(1);
        due("1439 ahead", x.lesson(0, 1), 30);
        x.minutes(1);
        due("1440 ahead", x.lesson(0, 1), NONE);
        x = Edge.ringing("ring 0 when minute=0;ring 1 when minute=45;");
        Edge.to(x, 59);
        due("the last of more than one", x.lesson(0, 1), 45);
        x.minutes(1);
        due("a new one", x.lesson(0, 1), 45);
    }

    private static void lessonTo() {
        says("to the next ring of the other behind that (1 .. 1440 minutes)");
        HallClock x = Edge.ringing("ring 0 when date=0 and clock=0;ring 1 when date=1 and clock=0;ring 2 when date=1 and clock=1;"
                + "ring 3 when date<3 and clock=0;");
        due("1440 behind", x.lesson(0, 1), 1440);
        due("1441 behind", x.lesson(0, 2), NONE);
        due("the same minute is not behind it", x.lesson(0, 3), 1440);
        due("the same bell: a day", x.lesson(3, 3), 1440);
        due("the same bell, never again", x.lesson(0, 0), NONE);
        x = Edge.ringing("ring 0 when clock=0;ring 1 when clock=1;ring 2 when clock<2;");
        due("1 behind", x.lesson(0, 1), 1);
        due("1 behind, not 0", x.lesson(0, 2), 1);
        x.minutes(1);
        due("to the next day", x.lesson(1, 0), 1439);
        due("from the later one", x.lesson(2, 0), 1439);
        due("from the later one to the same", x.lesson(2, 1), 1440);
    }

    private static void lessonAtTheEnds() {
        says("LESSON from a BELL to another one");
        HallClock x = Edge.ringing("ring 0 when clock=1438;ring 1 when clock=1439;ring 2 when clock=0;ring 3 when date=399 and clock=1439;");
        due("none at minute 0", x.lesson(1, 2), NONE);
        due("from minute 0", x.lesson(2, 1), 1439);
        Edge.to(x, 575998);
        due("to the last minute", x.lesson(0, 1), 1);
        due("none beyond the last minute", x.lesson(0, 2), NONE);
        due("from the day ahead", x.lesson(1, 0), 1439);
        x.minutes(1);
        due("from the last minute", x.lesson(3, 2), NONE);
        due("from the last minute to itself", x.lesson(3, 3), NONE);
        due("at the last minute", x.lesson(0, 1), 1);
    }

    private static void rings() {
        says("Whether a BELL RINGS at a minute (0 .. 575999; 1, 0). NONE for others.");
        HallClock x = Edge.ringing("ring 0 when clock=0;ring 3 when clock=1439;");
        due("the first minute", x.rings(0, 0), 1);
        due("the first minute, bell 3", x.rings(3, 0), 0);
        due("the last minute", x.rings(3, 575999), 1);
        due("the last minute, bell 0", x.rings(0, 575999), 0);
        due("bell -1", x.rings(-1, 0), NONE);
        due("bell 4", x.rings(4, 0), NONE);
        due("minute -1", x.rings(0, -1), NONE);
        due("minute 576000", x.rings(0, 576000), NONE);
        due("least", x.rings(Edge.LEAST, Edge.LEAST), NONE);
        due("most", x.rings(Edge.MOST, Edge.MOST), NONE);
        x.by(NONE);
        due("bell 4 without a strip", x.rings(4, 0), NONE);
        due("minute 576000 without a strip", x.rings(0, 576000), NONE);
        due("the last minute without a strip", x.rings(0, 575999), 0);
    }

    private static void next() {
        says("The first minute from one on");
        HallClock x = Edge.ringing("ring 0 when clock=100;ring 3 when clock>=100 and clock<103;");
        due("one ahead", x.next(0, 99), 100);
        due("at it", x.next(0, 100), 100);
        due("one behind", x.next(0, 101), 1540);
        due("the first of three", x.next(3, 99), 100);
        due("the second of three", x.next(3, 101), 101);
        due("behind all three", x.next(3, 103), 1540);
        says("NONE: none, and for others.");
        due("a bell without a row", x.next(1, 0), NONE);
        due("bell -1", x.next(-1, 0), NONE);
        due("bell 4", x.next(4, 0), NONE);
        due("from -1", x.next(0, -1), NONE);
        due("from 576000", x.next(0, 576000), NONE);
        due("from least", x.next(0, Edge.LEAST), NONE);
        due("from most", x.next(0, Edge.MOST), NONE);
        due("from 0", x.next(0, 0), 100);
        due("from 575999", x.next(0, 575999), NONE);
        x.by(NONE);
        due("without a strip", x.next(0, 0), NONE);
    }

    private static void nextWithin() {
        says("within 20 DAYS (28800 minutes)");
        HallClock x = Edge.ringing("ring 0 when date=30 and clock=0;ring 1 when date=19 and clock=1439;ring 2 when date=20 and clock=0;");
        due("28801 ahead", x.next(0, 43200 - 28801), NONE);
        due("28800 ahead", x.next(0, 43200 - 28800), NONE);
        due("28799 ahead", x.next(0, 43200 - 28799), 43200);
        due("the last of 28800 minutes from 0 on", x.next(1, 0), 28799);
        due("one too far from 0 on", x.next(2, 0), NONE);
        due("from 1 on", x.next(2, 1), 28800);
    }

    private static void nextToTheLast() {
        says("at which a BELL RINGS. NONE: none");
        HallClock x = Edge.ringing("ring 0 when clock=1439;ring 1 when clock=0;");
        due("the last minute", x.next(0, 575999), 575999);
        due("the last minute from the one ahead", x.next(0, 575998), 575999);
        due("the last minute from the day ahead", x.next(0, 574560), 575999);
        due("none beyond", x.next(1, 575999), NONE);
        due("none beyond, from the last day", x.next(1, 574561), NONE);
        due("the last day", x.next(1, 574560), 574560);
    }

    /** A search may end early only where nothing can ring later. */
    private static void nextByEachWord() {
        says("The first minute from one on, within 20 DAYS (28800 minutes), at which a BELL RINGS");
        due("minute", Edge.ringing("ring 0 when minute=59;").next(0, 60), 119);
        due("hour", Edge.ringing("ring 0 when hour=23;").next(0, 1440), 1440 + 1380);
        due("hour behind", Edge.ringing("ring 0 when hour=0;").next(0, 60), 1440);
        due("clock", Edge.ringing("ring 0 when clock=1439;").next(0, 1440), 2879);
        due("clock behind", Edge.ringing("ring 0 when clock=0;").next(0, 1), 1440);
        due("day", Edge.ringing("ring 0 when day=6;").next(0, 10080), 10080 + 8640);
        due("day behind", Edge.ringing("ring 0 when day=0;").next(0, 1440), 10080);
        due("day with clock", Edge.ringing("ring 0 when day=0 and clock=0;").next(0, 1), 10080);
        due("date", Edge.ringing("ring 0 when date=19;").next(0, 0), 19 * 1440);
        due("date and hour", Edge.ringing("ring 0 when date=19 and hour=23 and minute=59;").next(0, 0), 28799);
        due("of another row", Edge.ringing("ring 1 when 1=1;ring 0 when date=3;").next(0, 0), 4320);
        due("rest by date", Edge.ringing("ring 0 when 1=1;rest date<10;").next(0, 0), 14400);
        due("neither", Edge.ringing("ring 0 when 1=1;").next(0, 5), 5);
        due("never", Edge.ringing("ring 0 when 1=2;").next(0, 5), NONE);
    }

    private static void often() {
        says("How often a BELL RINGS on a DAY (0 .. 399). NONE for others.");
        HallClock x = Edge.ringing("ring 0 when 1=1;ring 1 when clock=0 or clock=1439;ring 2 when date=0;ring 3 when date=399;");
        due("always", x.often(0, 0), 1440);
        due("always, the last day", x.often(0, 399), 1440);
        due("the first and the last minute", x.often(1, 5), 2);
        due("day 0", x.often(2, 0), 1440);
        due("not day 1", x.often(2, 1), 0);
        due("day 399", x.often(3, 399), 1440);
        due("not day 398", x.often(3, 398), 0);
        due("day -1", x.often(0, -1), NONE);
        due("day 400", x.often(0, 400), NONE);
        due("bell -1", x.often(-1, 0), NONE);
        due("bell 4", x.often(4, 0), NONE);
        due("least", x.often(0, Edge.LEAST), NONE);
        due("most", x.often(0, Edge.MOST), NONE);
        x.by(NONE);
        due("without a strip", x.often(0, 0), 0);
        due("day 400 without a strip", x.often(0, 400), NONE);
    }

    private static void together() {
        says("at which two BELLS RING together");
        HallClock x = Edge.ringing("ring 0 when clock%2=0;ring 1 when clock%3=0;ring 2 when clock%2=1;rest clock=6;");
        due("from 0", x.together(0, 1, 0), 0);
        due("the other way round", x.together(1, 0, 0), 0);
        due("not 6, as both rest", x.together(0, 1, 1), 12);
        due("never", x.together(0, 2, 0), NONE);
        due("one that never rings", x.together(0, 3, 0), NONE);
        due("the other that never rings", x.together(3, 0, 0), NONE);
        says("NONE: none, and for others.");
        due("one -1", x.together(-1, 0, 0), NONE);
        due("one 4", x.together(4, 0, 0), NONE);
        due("other -1", x.together(0, -1, 0), NONE);
        due("other 4", x.together(0, 4, 0), NONE);
        due("from -1", x.together(0, 1, -1), NONE);
        due("from 576000", x.together(0, 1, 576000), NONE);
        due("from most", x.together(0, 1, Edge.MOST), NONE);
        due("from 575999", x.together(2, 2, 575999), 575999);
        due("from 575999, at which one rings", x.together(0, 2, 575999), NONE);
    }

    private static void togetherWithin() {
        says("The first minute from one on, within 20 DAYS, at which two BELLS RING together");
        HallClock x = Edge.ringing("ring 0 when clock=0;ring 1 when date=30;ring 2 when date=399;ring 3 when clock=1439;");
        due("28800 ahead", x.together(0, 1, 43200 - 28800), NONE);
        due("28799 ahead", x.together(0, 1, 43200 - 28799), 43200);
        due("one behind", x.together(0, 1, 43201), NONE);
        due("the last minute", x.together(2, 3, 547200), 575999);
        due("the last minute, one too far", x.together(2, 3, 547199), NONE);
        due("none beyond", x.together(0, 2, 574561), NONE);
    }

    private static void togetherOfOne() {
        says("at which two BELLS RING together");
        HallClock x = Edge.ringing("ring 0 when clock=7;");
        due("a bell with itself", x.together(0, 0, 0), 7);
    }

    private static void late() {
        says("LATE for a BELL (dial NONE: by m). NONE: it didn't ring, and for others.");
        HallClock x = dialAt(100, 90);
        due("by m", x.late(0, NONE), 100);
        due("by the dial", x.late(0, 0), 90);
        due("it didn't ring", x.late(1, NONE), NONE);
        due("nor by the dial", x.late(1, 0), NONE);
        due("bell -1", x.late(-1, NONE), NONE);
        due("bell 4", x.late(4, NONE), NONE);
        due("dial -2", x.late(0, -2), NONE);
        due("dial 1", x.late(0, 1), NONE);
        due("dial least", x.late(0, Edge.LEAST), NONE);
        due("dial most", x.late(0, Edge.MOST), NONE);
        x.by(NONE);
        due("without a strip", x.late(0, NONE), NONE);
    }

    private static void lesson() {
        says("LESSON. NONE: there is none, and for others.");
        HallClock x = Edge.ringing("ring 0 when clock=0;ring 3 when clock=5;");
        due("bells 0 and 3", x.lesson(0, 3), 5);
        due("from -1", x.lesson(-1, 3), NONE);
        due("from 4", x.lesson(4, 3), NONE);
        due("to -1", x.lesson(0, -1), NONE);
        due("to 4", x.lesson(0, 4), NONE);
        due("least", x.lesson(Edge.LEAST, 0), NONE);
        due("most", x.lesson(0, Edge.MOST), NONE);
        due("from one that didn't ring", x.lesson(3, 0), NONE);
        due("to one that never rings", x.lesson(0, 1), NONE);
        x.by(NONE);
        due("without a strip", x.lesson(0, 3), NONE);
    }
}
