/** Each sentence about the image and what is told of the clock that names an edge (terms IV, promises 32 to 34). */
public final class EdgesImageTest {
    private static final int NONE = Edge.NONE;

    private static void says(String words) { Edge.says(words); }
    private static void due(String what, int got, int want) { Edge.due(what, got, want); }
    private static void yes(String what, boolean got) { Edge.yes(what, got); }
    private static void no(String what, boolean got) { Edge.no(what, got); }

    public static void main(String[] args) {
        allAsItIs();
        dialsOfTheImage();
        watchOfTheImage();
        watchBehindTheImage();
        readBehindTheImage();
        allOfTheWatchOfTheImage();
        stripThatRangBehindTheImage();
        tapeIsNotOfIt();
        faultIsNotOfIt();
        stripsBehindItAreGone();
        stripsOfTheImageStay();
        theStripOfTheImage();
        fullClockOfTheImage();
        imageOfANewObject();
        image();
        back();
        aboutEach();
        aboutBranches();
        aboutOthers();
        Edge.close("the edges of the image hold");
    }

    private static void allAsItIs() {
        says("AN IMAGE: all as it is (WATCH too)");
        HallClock x = Edge.chain();
        x.minutes(3);
        x.cut(2, true);
        x.stop(true);
        x.watch(4);
        x.image();
        x.minutes(1);
        x.quick(2);
        x.cut(2, false);
        x.cut(7, true);
        x.stop(false);
        x.watch(7);
        due("back", x.back(), 3);
        int[] about = {3, 1, 1, 8, 8, 0, NONE, 0, 4, 0};
        for (int what = 0; what < about.length; what++) due("about " + what, x.about(what), about[what]);
        for (int b = 0; b < 8; b++) due("branch " + b, x.about(20 + b), b == 2 ? 1 : 0);
        no("broken as it was", x.cut(2, true));
        no("stopped as it was", x.stop(true));
    }

    private static void dialsOfTheImage() {
        says("AN IMAGE: all as it is");
        HallClock x = Edge.plain(719);
        x.branch(NONE);
        x.dial(1, true, 5, 0);
        x.worn(0, 2, 3);
        x.worn(1, 0, 2);
        x.quick(2);
        x.hold(1, true);
        x.image();
        x.set(0, 300);
        x.set(1, 300);
        x.hang(0, 1);
        x.worn(0, 0, 0);
        x.worn(1, 0, 0);
        x.hold(0, true);
        x.hold(1, false);
        x.quick(1);
        x.branch(0);
        x.dial(2, true, 1, 1);
        x.back();
        int[][] due = {{0, 1, 2, 0, 0, 0, 1}, {6, 1, 1, 714, 1, 1, 1}};
        for (int d = 0; d < 2; d++) for (int what = 0; what < 7; what++) due("dial " + d + ", " + what, x.at(d, what), due[d][what]);
        due("one told behind it is gone", x.at(2, 0), NONE);
        due("its branch too", x.about(22), NONE);
        x.hold(1, false);
        x.quick(1);
        due("bounces at 3 as it was worn", x.at(0, 0), 2);
        due("bounces at 2 as it was worn, turned as it was", x.at(1, 0), 8);
        x.storm(1, 0);
        due("does nothing, turned as it was", x.at(1, 2), 2);
        due("its number is free again", x.dial(1, false, 0, 0), 2);
        due("no wear, no hold, no count", x.at(2, 2) + x.at(2, 5), 0);
    }

    private static void watchOfTheImage() {
        says("all as it is (WATCH too)");
        HallClock x = Edge.plain(0, 0);
        x.watch(3);
        x.read(0, 3, 2);
        due("fewest", x.fewest(0), 1);
        x.image();
        x.read(1, 3, 2);
        x.read(1, 0, 1);
        due("can't be explained", x.fewest(0), NONE);
        x.back();
        due("read", x.about(7), 1);
        due("fewest", x.fewest(0), 1);
        due("may be", x.broken(0, 0, 1), 1);
        due("question", x.question(0, 2), 2);
        due("one more", x.read(1, 3, 3), 2);
        due("no break now", x.broken(0, 0, 1), 0);
        due("N", x.about(8), 3);
    }

    private static void watchBehindTheImage() {
        says("all as it is (WATCH too)");
        HallClock x = Edge.plain(0);
        x.image();
        x.watch(3);
        x.read(0, 3, 2);
        due("fewest", x.fewest(0), 1);
        x.back();
        due("no watch", x.about(8), 0);
        due("nothing read", x.about(7), 0);
        due("fewest", x.fewest(0), NONE);
        due("broken", x.broken(0, 0, 1), NONE);
        due("question", x.question(0, 0), NONE);
        due("read", x.read(0, 0, 0), NONE);
        x.watch(2);
        x.image();
        x.set(0, 5);
        x.worn(0, 1, 0);
        x.quick(1);
        x.watch(9);
        x.back();
        x.read(0, 2, 2);
        due("the watch with its dials", x.fewest(0), 0);
        due("its N", x.about(8), 2);
    }

    private static void readBehindTheImage() {
        says("all as it is (WATCH too)");
        HallClock x = Edge.plain(0);
        x.watch(2);
        x.stop(true);
        x.minutes(1440);
        x.read(0, 2, 3);
        x.image();
        x.minutes(1440);
        x.read(0, 0, 1);
        due("as known on day 1", x.fewest(1), 1);
        due("as known on day 2", x.fewest(2), NONE);
        due("back", x.back(), 1440);
        due("as known on day 2", x.fewest(2), 1);
        x.read(0, 1, 2);
        due("told on day 1 now: as known on day 0", x.fewest(0), 0);
        due("as known on day 1", x.fewest(1), 1);
        for (int i = 3; i <= 30; i++) due("read", x.read(0, 1, 2), i);
        due("full", x.read(0, 1, 2), NONE);
        x.back();
        due("not full", x.read(0, 1, 2), 2);
    }

    private static void allOfTheWatchOfTheImage() {
        says("all as it is (WATCH too)");
        HallClock x = Edge.turned(0);
        x.quick(1);
        x.watch(3);
        x.minutes(1440);
        x.read(0, 2, 2);
        x.minutes(1440);
        x.read(0, 3, 3);
        due("a miss of the second, known on day 1", x.fewest(1), 1);
        due("known on day 2: it would do nothing at the third", x.fewest(2), NONE);
        x.image();
        x.quick(1);
        x.branch(0);
        x.dial(1, false, 7, 0);
        x.watch(5);
        x.read(1, 5, 12);
        x.read(1, 4, 11);
        x.back();
        int[] about = {2880, 1, 0, 1, 1, 0, NONE, 2, 3, 0};
        for (int what = 0; what < about.length; what++) due("about " + what, x.about(what), about[what]);
        due("as known on day 0", x.fewest(0), 0);
        due("as known on day 1", x.fewest(1), 1);
        due("as known on day 2", x.fewest(2), NONE);
        due("a branch of the other watch", x.broken(0, 1, 1), NONE);
        due("a dial of the other watch", x.read(1, 0, 7), NONE);
        due("a pulse of the other watch", x.read(0, 4, 0), NONE);
        x = Edge.turned(0);
        x.quick(1);
        x.watch(3);
        x.minutes(1440);
        x.read(0, 1, 2);
        x.read(0, 3, 4);
        x.image();
        x.quick(1);
        x.watch(3);
        x.read(0, 3, 1);
        x.read(0, 2, 1);
        x.back();
        due("its sign, its pulses, its days: as known on day 0", x.fewest(0), 0);
        due("its sign, its pulses, its days: as known on day 1", x.fewest(1), 0);
    }

    private static void stripThatRangBehindTheImage() {
        says("STRIPS told behind it are gone behind going back");
        HallClock x = new HallClock();
        x.image();
        ring(x, 1, 0);
        x.by(0);
        due("rings at 7", x.rings(1, 7), 1);
        x.back();
        ring(x, 2, 0);
        x.by(0);
        due("the new one at the same minute", x.rings(1, 7), 0);
        due("the new one at the same minute", x.rings(2, 7), 1);
        x.back();
        Edge.type(x, "ring 2 when 1=2;");
        x.strip();
        x.by(0);
        due("one of the same form that is never so, at the same minute", x.rings(2, 7), 0);
    }

    private static void tapeIsNotOfIt() {
        says("but the tape and the latest FAULT");
        HallClock x = new HallClock();
        Edge.type(x, "rest ");
        x.image();
        Edge.type(x, "1=1;");
        x.back();
        due("the tape stays as it is", x.about(9), 9);
        due("rest 1=1;", x.strip(), 0);
        x.back();
        due("an empty tape stays empty", x.about(9), 0);
    }

    private static void faultIsNotOfIt() {
        says("but the tape and the latest FAULT");
        HallClock x = new HallClock();
        x.image();
        Edge.type(x, " !");
        x.strip();
        x.back();
        due("fault", x.fault(0), 1);
        due("place", x.fault(1), 1);
        x.image();
        Edge.type(x, "rest 10000=1;");
        x.strip();
        x.back();
        due("fault", x.fault(0), 2);
        due("place", x.fault(1), 5);
        x.strip();
        x.back();
        due("without", x.fault(0), 0);
        due("the strip is gone", x.about(5), 0);
    }

    private static void ring(HallClock x, int bell, int number) {
        Edge.type(x, "ring " + bell + " when 1=1;");
        due("strip", x.strip(), number);
    }

    private static void stripsBehindItAreGone() {
        says("STRIPS told behind it are gone behind going back");
        HallClock x = new HallClock();
        ring(x, 0, 0);
        x.image();
        ring(x, 1, 1);
        ring(x, 2, 2);
        ring(x, 3, 3);
        x.by(3);
        x.back();
        due("how many", x.about(5), 1);
        no("1 is gone", x.by(1));
        no("3 is gone", x.by(3));
        yes("0 is there", x.by(0));
        due("0 rings", x.rings(0, 0), 1);
        ring(x, 3, 1);
        x.by(1);
        due("the new 1 rings bell 3", x.rings(3, 0), 1);
        due("not bell 1", x.rings(1, 0), 0);
        x.back();
        due("none is told", x.about(6), NONE);
        Edge.type(x, "ring 2 when");
        due("a fault", x.strip(), NONE);
        x.by(0);
        due("0 rings still", x.rings(0, 0), 1);
    }

    private static void stripsOfTheImageStay() {
        says("STRIPS told behind it are gone behind going back");
        HallClock x = new HallClock();
        for (int i = 0; i < 4; i++) ring(x, i, i);
        x.image();
        x.back();
        due("all four", x.about(5), 4);
        due("so there is no room", x.strip(), NONE);
        for (int i = 0; i < 4; i++) {
            yes("strip " + i, x.by(i));
            for (int bell = 0; bell < 4; bell++) due("strip " + i + ", bell " + bell, x.rings(bell, 0), bell == i ? 1 : 0);
        }
    }

    private static void theStripOfTheImage() {
        says("All is as at THE IMAGE again");
        HallClock x = new HallClock();
        ring(x, 0, 0);
        ring(x, 1, 1);
        x.by(1);
        x.image();
        x.by(0);
        due("0", x.rings(0, 77), 1);
        x.back();
        due("the strip", x.about(6), 1);
        due("1", x.rings(1, 77), 1);
        due("not 0", x.rings(0, 77), 0);
        x.by(NONE);
        x.image();
        x.by(0);
        x.back();
        due("none", x.about(6), NONE);
        due("none rings", x.rings(0, 77), 0);
    }

    private static void fullClockOfTheImage() {
        says("AN IMAGE: all as it is (WATCH too)");
        HallClock x = new HallClock();
        for (int b = 0; b < 8; b++) x.branch(NONE);
        for (int d = 0; d < 16; d++) x.dial(d % 8, d % 2 == 0, d * 40, d % 2);
        x.watch(10);
        for (int i = 0; i < 30; i++) x.read(i % 16, 0, i % 16 * 40);
        x.image();
        for (int d = 0; d < 16; d++) {
            x.set(d, 1);
            x.hang(d, 0);
            x.hold(d, true);
        }
        for (int b = 0; b < 8; b++) x.cut(b, true);
        x.watch(1);
        x.read(15, 0, 9);
        x.back();
        for (int d = 0; d < 16; d++) {
            due("hands of " + d, x.at(d, 0), d * 40);
            due("last of " + d, x.at(d, 1), d % 2);
            due("branch of " + d, x.at(d, 4), d % 8);
            due("held " + d, x.at(d, 5), 0);
            due("pulses to " + d, x.at(d, 6), 1);
        }
        due("read", x.about(7), 30);
        due("fewest", x.fewest(0), 0);
        due("the 31st", x.read(0, 0, 0), NONE);
        due("the 9th branch", x.branch(NONE), NONE);
        due("the 17th dial", x.dial(0, false, 0, 0), NONE);
    }

    private static void imageOfANewObject() {
        says("THE IMAGE is this");
        HallClock x = new HallClock();
        due("back at once", x.back(), 0);
        x.branch(NONE);
        x.dial(0, false, 1, 1);
        x.minutes(5);
        ring(x, 0, 0);
        x.by(0);
        x.watch(1);
        due("back", x.back(), 0);
        int[] about = {0, 0, 0, 0, 0, 0, NONE, 0, 0, 0};
        for (int what = 0; what < about.length; what++) due("about " + what, x.about(what), about[what]);
        due("branch 0", x.about(20), NONE);
        due("a branch", x.branch(NONE), 0);
        due("a dial", x.dial(0, false, 0, 0), 0);
    }

    private static void image() {
        says("THE IMAGE is as all is now: m.");
        HallClock x = Edge.plain(0);
        due("at 0", x.image(), 0);
        x.minutes(5);
        due("at 5, over the other one", x.image(), 5);
        x.minutes(5);
        due("back to the latest", x.back(), 5);
        due("hands", x.at(0, 0), 5);
        due("an image of an image", x.image(), 5);
        Edge.to(x, 575999);
        due("at the last minute", x.image(), 575999);
        due("nothing else is done", x.at(0, 2), 575999);
        x.quick(1);
        due("back at the last minute", x.back(), 575999);
        due("count", x.at(0, 2), 575999);
        due("beyond", x.minutes(1), NONE);
    }

    private static void back() {
        says("All is as at THE IMAGE again (it stays): m.");
        HallClock x = Edge.plain(0);
        x.minutes(4);
        x.image();
        for (int i = 0; i < 3; i++) {
            x.minutes(10 + i);
            x.set(0, 99);
            due("back", x.back(), 4);
            due("m", x.about(0), 4);
            due("hands", x.at(0, 0), 4);
            due("count", x.at(0, 2), 4);
            due("sign", x.about(1), 0);
        }
        due("twice in a row", x.back(), 4);
        due("the same", x.at(0, 0), 4);
    }

    private static void aboutEach() {
        says("0 m, 1 THE SIGN, 2 whether THE MASTER is STOPPED (1, 0), 3 BRANCHES, 4 DIALS, 5 STRIPS, 6 THE STRIP (NONE), 7 READ, "
                + "8 N of WATCH (0 without), 9 bytes of the tape");
        HallClock x = new HallClock();
        int[] none = {0, 0, 0, 0, 0, 0, NONE, 0, 0, 0};
        for (int what = 0; what < 10; what++) due("about " + what + " at first", x.about(what), none[what]);
        for (int b = 0; b < 8; b++) x.branch(NONE);
        for (int d = 0; d < 16; d++) x.dial(0, false, 0, 0);
        for (int s = 0; s < 4; s++) x.strip();
        x.by(3);
        x.watch(10);
        for (int i = 0; i < 30; i++) x.read(0, 0, 0);
        for (int i = 0; i < 15; i++) x.feed(0, 0, 0, 0, 0);
        Edge.to(x, 575999);
        x.stop(true);
        int[] full = {575999, 1, 1, 8, 16, 4, 3, 30, 10, 300};
        for (int what = 0; what < 10; what++) due("about " + what + " when full", x.about(what), full[what]);
    }

    private static void aboutBranches() {
        says("20 + branch: whether it is BROKEN");
        HallClock x = new HallClock();
        for (int n = 0; n <= 8; n++) {
            for (int b = 0; b <= 8; b++) due(n + " branches, about " + (20 + b), x.about(20 + b), b < n ? 0 : NONE);
            x.branch(NONE);
        }
        x.cut(0, true);
        x.cut(7, true);
        for (int b = 0; b < 8; b++) due("about " + (20 + b), x.about(20 + b), b == 0 || b == 7 ? 1 : 0);
        HallClock y = Edge.chain();
        y.cut(0, true);
        due("one behind a broken one isn't", y.about(21), 0);
    }

    private static void aboutOthers() {
        says("NONE for others.");
        HallClock x = Edge.chain();
        int[] others = {-1, 10, 11, 19, 28, 29, 100, Edge.LEAST, Edge.LEAST + 19, Edge.LEAST + 20, Edge.MOST};
        for (int what : others) due("about " + what, x.about(what), NONE);
    }
}
