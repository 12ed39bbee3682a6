/** Cases made by hand, one method for each promise of the document. */
public final class PromisesTest {
    private static final int NONE = HallClock.NONE;
    private static final int[] WILD = {Integer.MIN_VALUE, -1000, -2, 16, 400, 720, 1441, 10001, 576000, Integer.MAX_VALUE};
    private static int promise;
    private static int bad = 0;

    private static void due(String what, int got, int want) {
        if (got != want) {
            bad++;
            System.out.println("promise " + promise + ": " + what + " answered " + got + ", due is " + want);
        }
    }

    private static void yes(String what, boolean got) { due(what, got ? 1 : 0, 1); }
    private static void no(String what, boolean got) { due(what, got ? 1 : 0, 0); }

    public static void main(String[] args) {
        newObject(1);
        branch(2);
        dial(3);
        worn(4);
        hang(5);
        set(6);
        cut(7);
        hold(8);
        stop(9);
        minutes(10);
        quick(11);
        storm(12);
        at(13);
        wrong(14);
        watch(15);
        read(16);
        fewest(17);
        broken(18);
        question(19);
        rounds(20);
        feed(21);
        end(22);
        strip(23);
        fault(24);
        by(25);
        rings(26);
        next(27);
        often(28);
        together(29);
        late(30);
        lesson(31);
        image(32);
        back(33);
        about(34);
        System.out.println(bad == 0 ? "all promises hold" : bad + " answers are not as due");
        if (bad != 0) System.exit(1);
    }

    /** Three branches (1 behind 0, 2 by itself) with a plain dial each, all right at minute 0. */
    private static HallClock three() {
        HallClock x = new HallClock();
        x.branch(NONE);
        x.branch(0);
        x.branch(NONE);
        for (int b = 0; b < 3; b++) x.dial(b, false, 0, 1);
        return x;
    }

    private static void type(HallClock x, String text) {
        int first = x.about(9);
        StringBuilder padded = new StringBuilder(text);
        while (padded.length() % 20 != 0) padded.append(' ');
        for (int i = 0; i < padded.length(); i += 20) {
            int[] five = new int[5];
            for (int k = 0; k < 20; k++) five[k / 4] = five[k / 4] << 8 | padded.charAt(i + k);
            x.feed(five[0], five[1], five[2], five[3], five[4]);
        }
        x.end(first + text.length());
    }

    private static HallClock ringing(String text) {
        HallClock x = new HallClock();
        type(x, text);
        due("strip of " + text, x.strip(), 0);
        yes("by(0)", x.by(0));
        return x;
    }

    private static void to(HallClock x, int minute) {
        while (x.about(0) < minute) x.minutes(Math.min(10000, minute - x.about(0)));
    }

    private static void newObject(int n) {
        promise = n;
        HallClock x = new HallClock();
        int[] due = {0, 0, 0, 0, 0, 0, NONE, 0, 0, 0};
        for (int what = 0; what < 10; what++) due("about(" + what + ")", x.about(what), due[what]);
        due("wrong()", x.wrong(), 0);
        due("fewest(0)", x.fewest(0), NONE);
        due("fault(0)", x.fault(0), NONE);
        due("rings(0, 0)", x.rings(0, 0), 0);
        x.branch(NONE);
        x.dial(0, false, 0, 0);
        x.watch(3);
        x.minutes(7);
        due("back() to the new object", x.back(), 0);
        due("branches", x.about(3), 0);
        due("dials", x.about(4), 0);
        due("watch", x.about(8), 0);
        due("sign", x.about(1), 0);
    }

    private static void branch(int n) {
        promise = n;
        HallClock x = new HallClock();
        due("branch(0) without any", x.branch(0), NONE);
        for (int wild : WILD) due("branch(" + wild + ")", x.branch(wild), NONE);
        due("branch(NONE)", x.branch(NONE), 0);
        due("branch(1) itself", x.branch(1), NONE);
        for (int i = 1; i < 8; i++) due("branch " + i, x.branch(i - 1), i);
        due("the 9th", x.branch(NONE), NONE);
        due("the 9th behind one", x.branch(3), NONE);
        due("how many", x.about(3), 8);
        x.dial(7, false, 0, 0);
        x.cut(3, true);
        due("a pulse through a break far ahead", x.at(0, 6), 0);
    }

    private static void dial(int n) {
        promise = n;
        HallClock x = new HallClock();
        due("dial without a branch", x.dial(0, false, 0, 0), NONE);
        x.branch(NONE);
        due("hands 720", x.dial(0, false, 720, 0), NONE);
        due("hands -1", x.dial(0, false, -1, 0), NONE);
        due("last 2", x.dial(0, false, 0, 2), NONE);
        due("last -1", x.dial(0, false, 0, -1), NONE);
        due("branch NONE", x.dial(NONE, false, 0, 0), NONE);
        for (int wild : WILD) due("branch " + wild, x.dial(wild, true, 0, 0), NONE);
        for (int i = 0; i < 16; i++) due("dial " + i, x.dial(0, i % 2 == 0, 719 - i, i % 2), i);
        due("the 17th", x.dial(0, false, 0, 0), NONE);
        due("hands", x.at(2, 0), 717);
        due("last", x.at(3, 1), 1);
        due("count", x.at(3, 2), 0);
        due("not held", x.at(3, 5), 0);
    }

    private static void worn(int n) {
        promise = n;
        HallClock x = three();
        no("dial 3", x.worn(3, 1, 1));
        no("dial -1", x.worn(-1, 1, 1));
        no("skip 1000", x.worn(0, 1000, 1));
        no("bounce 1000", x.worn(0, 1, 1000));
        no("skip -1", x.worn(0, -1, 1));
        no("bounce -1", x.worn(0, 1, -1));
        x.minutes(1);
        due("not worn by those", x.at(0, 0), 1);
        yes("worn(0, 3, 2)", x.worn(0, 3, 2));
        int[] hands = {3, 3, 5, 6, 6, 7, 9, 9};
        for (int i = 0; i < hands.length; i++) {
            x.quick(1);
            due("hands at count " + (i + 2), x.at(0, 0), hands[i]);
        }
        yes("worn(0, 999, 999)", x.worn(0, 999, 999));
        x.quick(100);
        due("no wear yet", x.at(0, 0), 109);
        x.quick(890);
        due("skip goes ahead of bounce", x.at(0, 0), 998 % 720);
        due("count", x.at(0, 2), 999);
        yes("worn(0, 0, 1)", x.worn(0, 0, 1));
        x.set(0, 718);
        x.quick(1);
        due("719 and on to 0", x.at(0, 0), 0);
        yes("worn(0, 1, 1)", x.worn(0, 1, 1));
        x.quick(5);
        due("skips always", x.at(0, 0), 0);
        due("but counts", x.at(0, 2), 1005);
    }

    private static void hang(int n) {
        promise = n;
        HallClock x = three();
        no("dial 3", x.hang(3, 0));
        no("branch 3", x.hang(0, 3));
        no("branch NONE", x.hang(0, NONE));
        x.cut(2, true);
        x.minutes(2);
        yes("hang(1, 2)", x.hang(1, 2));
        yes("where it is already", x.hang(1, 2));
        due("its branch", x.at(1, 4), 2);
        due("hands as they are", x.at(1, 0), 2);
        due("no pulses there", x.at(1, 6), 0);
        x.minutes(1);
        due("so it stands", x.at(1, 0), 2);
    }

    private static void set(int n) {
        promise = n;
        HallClock x = three();
        x.minutes(3);
        no("dial 3", x.set(3, 0));
        no("dial -1", x.set(-1, 0));
        no("hands 720", x.set(0, 720));
        no("hands -1", x.set(0, -1));
        yes("set(0, 719)", x.set(0, 719));
        due("hands", x.at(0, 0), 719);
        due("count stays", x.at(0, 2), 3);
        due("last stays", x.at(0, 1), 0);
        yes("as they are", x.set(0, 719));
        x.minutes(1);
        due("719 to 0", x.at(0, 0), 0);
    }

    private static void cut(int n) {
        promise = n;
        HallClock x = three();
        no("mended already", x.cut(0, false));
        no("branch 3", x.cut(3, true));
        no("branch NONE", x.cut(NONE, true));
        yes("cut(0, true)", x.cut(0, true));
        no("broken already", x.cut(0, true));
        x.minutes(1);
        due("on it", x.at(0, 0), 0);
        due("behind it", x.at(1, 0), 0);
        due("elsewhere", x.at(2, 0), 1);
        yes("mended", x.cut(0, false));
        yes("behind it", x.cut(1, true));
        x.minutes(1);
        due("ahead of the break", x.at(0, 0), 1);
        due("behind the break", x.at(1, 0), 0);
    }

    private static void hold(int n) {
        promise = n;
        HallClock x = three();
        no("let go already", x.hold(0, false));
        no("dial 3", x.hold(3, true));
        no("dial -1", x.hold(-1, true));
        yes("hold(0, true)", x.hold(0, true));
        no("held already", x.hold(0, true));
        x.minutes(1);
        due("hands", x.at(0, 0), 0);
        due("last", x.at(0, 1), 1);
        due("count", x.at(0, 2), 0);
        due("held", x.at(0, 5), 1);
        yes("let go", x.hold(0, false));
        x.minutes(1);
        due("hands go on", x.at(0, 0), 1);
    }

    private static void stop(int n) {
        promise = n;
        HallClock x = three();
        no("runs already", x.stop(false));
        yes("stop(true)", x.stop(true));
        no("stopped already", x.stop(true));
        due("minutes(3)", x.minutes(3), 3);
        due("no pulse", x.at(0, 0), 0);
        due("the sign stays", x.about(1), 0);
        due("quick pulses go out", x.quick(1), 1);
        due("and come", x.at(0, 0), 1);
        yes("stop(false)", x.stop(false));
        x.minutes(1);
        due("it goes on", x.at(0, 0), 2);
    }

    private static void minutes(int n) {
        promise = n;
        HallClock x = new HallClock();
        x.branch(NONE);
        x.dial(0, true, 0, 0);
        for (int wrong : new int[] {0, -1, 10001, Integer.MAX_VALUE, Integer.MIN_VALUE}) due("minutes(" + wrong + ")", x.minutes(wrong), NONE);
        due("minutes(1)", x.minutes(1), 1);
        due("a turned dial with this sign already", x.at(0, 0), 0);
        due("count", x.at(0, 2), 0);
        due("minutes(10000)", x.minutes(10000), 10001);
        due("hands", x.at(0, 0), 10000 % 720);
        due("sign", x.about(1), 1);
        for (int i = 0; i < 56; i++) x.minutes(10000);
        due("m", x.about(0), 570001);
        due("beyond", x.minutes(5999), NONE);
        due("m stays", x.about(0), 570001);
        due("to the last", x.minutes(5998), 575999);
        due("beyond the last", x.minutes(1), NONE);
        due("count", x.at(0, 2), 575998);
        due("behind", x.at(0, 3), 1);
    }

    private static void quick(int n) {
        promise = n;
        HallClock x = three();
        due("quick(0)", x.quick(0), NONE);
        due("quick(1441)", x.quick(1441), NONE);
        due("quick(-1)", x.quick(-1), NONE);
        due("quick(1440)", x.quick(1440), 0);
        due("round twice", x.at(0, 0), 0);
        due("count", x.at(0, 2), 1440);
        due("quick(3)", x.quick(3), 1);
        due("hands", x.at(0, 0), 3);
        due("last", x.at(0, 1), 0);
        due("m stays", x.about(0), 0);
        due("behind", x.at(0, 3), 717);
    }

    private static void storm(int n) {
        promise = n;
        HallClock x = three();
        x.dial(1, true, 0, 1);
        for (int wild : WILD) due("storm(" + wild + ", 0)", x.storm(wild, 0), NONE);
        due("storm(3, 0)", x.storm(3, 0), NONE);
        due("sign 2", x.storm(0, 2), NONE);
        due("sign -1", x.storm(0, -1), NONE);
        due("on 0 and behind", x.storm(0, 1), 2);
        due("the turned one has that sign", x.at(3, 2), 0);
        due("the sign stays", x.about(1), 0);
        due("on 1 alone", x.storm(1, 0), 2);
        due("not on 0", x.at(0, 2), 1);
        due("on 2 alone", x.storm(2, 0), 1);
        x.cut(0, true);
        due("on a broken one", x.storm(0, 0), 0);
        due("behind a broken one", x.storm(1, 1), 2);
        x.cut(1, true);
        x.cut(0, false);
        due("up to a broken one", x.storm(0, 0), 1);
        x.cut(1, false);
        x.hold(1, true);
        x.worn(0, 1, 0);
        due("a held one does nothing, one that skips does", x.storm(0, 0), 2);
    }

    private static void at(int n) {
        promise = n;
        HallClock x = three();
        x.minutes(5);
        x.set(1, 10);
        x.cut(1, true);
        x.hold(1, true);
        int[] zero = {5, 0, 5, 0, 0, 0, 1};
        int[] one = {10, 0, 5, 715, 1, 1, 0};
        for (int what = 0; what < 7; what++) {
            due("at(0, " + what + ")", x.at(0, what), zero[what]);
            due("at(1, " + what + ")", x.at(1, what), one[what]);
        }
        due("at(0, 7)", x.at(0, 7), NONE);
        due("at(0, -1)", x.at(0, -1), NONE);
        for (int wild : WILD) due("at(" + wild + ", 0)", x.at(wild, 0), NONE);
        for (int wild : WILD) due("at(0, " + wild + ")", x.at(0, wild), NONE);
        due("at(3, 0)", x.at(3, 0), NONE);
    }

    private static void wrong(int n) {
        promise = n;
        HallClock x = three();
        due("at first", x.wrong(), 0);
        x.cut(0, true);
        x.minutes(1);
        due("two stood", x.wrong(), 2);
        x.cut(0, false);
        x.minutes(720);
        due("still", x.wrong(), 2);
        x.set(0, 1);
        due("one put right", x.wrong(), 1);
        x.stop(true);
        x.minutes(719);
        due("those that went on are wrong", x.wrong(), 2);
    }

    private static void watch(int n) {
        promise = n;
        HallClock x = new HallClock();
        due("watch(1) of nothing", x.watch(1), 0);
        due("N", x.about(8), 1);
        due("fewest", x.fewest(0), 0);
        x = three();
        due("watch(0)", x.watch(0), NONE);
        due("watch(11)", x.watch(11), NONE);
        due("none is begun", x.about(8), 0);
        x.cut(0, true);
        x.hold(1, true);
        due("watch(10)", x.watch(10), 3);
        x.read(0, 10, 10);
        x.read(1, 10, 10);
        due("neither break nor hold is in it", x.fewest(0), 0);
        x.set(2, 300);
        x.hang(2, 0);
        x.worn(2, 1, 0);
        x.quick(1);
        x.read(2, 10, 10);
        due("nor what comes later", x.fewest(0), 0);
        due("watch(-1)", x.watch(-1), NONE);
        due("what was read stays", x.about(7), 3);
        due("watch(2)", x.watch(2), 3);
        due("what was read is gone", x.about(7), 0);
        x.read(2, 2, 300);
        due("it always skips now", x.fewest(0), 0);
        x.branch(NONE);
        due("a branch told behind it", x.broken(0, 3, 1), NONE);
        x.dial(0, false, 0, 0);
        due("a dial told behind it", x.read(3, 0, 0), NONE);
    }

    private static void read(int n) {
        promise = n;
        HallClock x = three();
        due("without watch", x.read(0, 0, 0), NONE);
        x.watch(4);
        due("dial 3", x.read(3, 0, 0), NONE);
        due("dial -1", x.read(-1, 0, 0), NONE);
        due("pulse 5", x.read(0, 5, 0), NONE);
        due("pulse -1", x.read(0, -1, 0), NONE);
        due("hands 720", x.read(0, 0, 720), NONE);
        due("hands -1", x.read(0, 0, -1), NONE);
        for (int i = 1; i <= 30; i++) due("read " + i, x.read(i % 3, i % 5, i % 5), i);
        due("the 31st", x.read(0, 0, 0), NONE);
        due("how many", x.about(7), 30);
        due("all as it should be", x.fewest(0), 0);
        readOfAll();
    }

    private static void readOfAll() {
        HallClock x = new HallClock();
        for (int b = 0; b < 8; b++) x.branch(b - 1);
        for (int d = 0; d < 16; d++) x.dial(d / 2, d % 2 == 0, 719, 1);
        due("watch(10) of 16", x.watch(10), 16);
        for (int d = 0; d < 16; d++) x.read(d, 10, d < 6 ? 9 : 7);
        due("a break of branch 3 for ten dials", x.fewest(0), 1);
        due("it may be at 5", x.broken(0, 3, 5), 1);
        due("not ahead of it", x.broken(0, 2, 5), 0);
        due("dial 6 tells most", x.question(0, 0), 6);
    }

    private static void fewest(int n) {
        promise = n;
        HallClock x = three();
        due("without watch", x.fewest(0), NONE);
        x.watch(6);
        due("known -1", x.fewest(-1), NONE);
        due("known 400", x.fewest(400), NONE);
        due("nothing read", x.fewest(399), 0);
        x.read(0, 6, 3);
        due("one break for three", x.fewest(0), 1);
        x.read(1, 6, 2);
        due("a break ahead and a miss, or two breaks", x.fewest(0), 2);
        x.minutes(1440);
        x.read(2, 1, 2);
        due("as known ahead of that", x.fewest(0), 2);
        due("a jump", x.fewest(1), 3);
        due("as known later", x.fewest(399), 3);
        x.read(2, 2, 2);
        due("a miss, or a break again", x.fewest(1), 4);
        x.read(2, 2, 1);
        due("unlike hands of one moment", x.fewest(1), NONE);
        due("but not as known ahead", x.fewest(0), 2);
        x.watch(6);
        x.read(0, 0, x.at(0, 0));
        due("its beginning", x.fewest(1), 0);
        x.read(0, 0, x.at(0, 0) + 1);
        due("not its beginning", x.fewest(1), NONE);
        fewestByBreaks();
        fewestOfTurned();
    }

    private static void fewestByBreaks() {
        HallClock x = three();
        x.watch(10);
        int[] hands = {0, 1, 1, 2, 2, 3, 3, 4, 5, 6, 7};
        for (int p = 1; p <= 10; p++) x.read(0, p, hands[p]);
        due("three gaps: two breaks and a miss", x.fewest(0), 3);
        for (int p = 1; p <= 10; p++) x.read(1, p, hands[p]);
        due("two dials, three gaps: two breaks, two misses", x.fewest(0), 4);
        x.watch(2);
        x.read(0, 2, 5);
        due("more than jumps can do", x.fewest(0), NONE);
        x.watch(2);
        x.read(0, 2, 4);
        due("a jump at each", x.fewest(0), 2);
    }

    private static void fewestOfTurned() {
        HallClock x = new HallClock();
        x.branch(NONE);
        x.dial(0, true, 0, 1);
        x.watch(3);
        x.read(0, 3, 1);
        due("a turned one that missed a pulse misses the next too", x.fewest(0), 1);
        x.read(0, 1, 0);
        due("it was the first", x.fewest(0), 1);
        x.read(0, 2, 1);
        due("no act of the second, as it isn't its sign: but a jump is none either", x.fewest(0), NONE);
        x.worn(0, 2, 0);
        x.watch(3);
        x.read(0, 2, 2);
        due("a jump where it skips", x.fewest(0), 1);
        x.worn(0, 0, 1);
        x.watch(1);
        x.read(0, 1, 3);
        due("a jump where it bounces", x.fewest(0), 1);
    }

    private static void broken(int n) {
        promise = n;
        HallClock x = three();
        due("without watch", x.broken(0, 0, 1), NONE);
        x.watch(4);
        due("nothing read", x.broken(0, 0, 1), 0);
        due("pulse 0", x.broken(0, 0, 0), NONE);
        due("pulse 5", x.broken(0, 0, 5), NONE);
        due("branch 3", x.broken(0, 3, 1), NONE);
        due("branch -1", x.broken(0, -1, 1), NONE);
        due("known 400", x.broken(400, 0, 1), NONE);
        due("known -1", x.broken(-1, 0, 1), NONE);
        x.read(0, 4, 2);
        x.read(1, 4, 2);
        int[] of0 = {1, 1, 1, 1};
        for (int p = 1; p <= 4; p++) due("branch 0 at " + p, x.broken(0, 0, p), of0[p - 1]);
        for (int p = 1; p <= 4; p++) due("branch 1 at " + p, x.broken(0, 1, p), 0);
        x.read(0, 3, 1);
        due("may be at 1", x.broken(0, 0, 1), 1);
        due("sure at 2", x.broken(0, 0, 2), 2);
        due("may be at 3", x.broken(0, 0, 3), 1);
        due("not at 4", x.broken(0, 0, 4), 0);
        x.read(0, 1, 1);
        due("sure at 3 now", x.broken(0, 0, 3), 2);
        due("not at 1 now", x.broken(0, 0, 1), 0);
        due("a branch behind is not broken itself", x.broken(0, 1, 2), 0);
        x.minutes(1440);
        x.read(0, 0, 5);
        due("as known ahead", x.broken(0, 0, 2), 2);
        due("can't be explained", x.broken(1, 0, 2), NONE);
        brokenOrMissed();
    }

    private static void brokenOrMissed() {
        HallClock x = three();
        x.watch(3);
        x.read(1, 1, 0);
        x.read(0, 3, 3);
        due("one mishap", x.fewest(0), 1);
        due("a miss, or a break: it may be", x.broken(0, 1, 1), 1);
        due("a longer one may be", x.broken(0, 1, 3), 1);
        due("the branch ahead isn't", x.broken(0, 0, 1), 0);
    }

    private static void question(int n) {
        promise = n;
        HallClock x = three();
        due("without watch", x.question(0, 0), NONE);
        x.watch(4);
        due("nothing read, nothing to ask", x.question(0, 0), NONE);
        x.read(1, 4, 2);
        x.read(0, 4, 2);
        int[] due = {0, 2, 3};
        for (int what = 0; what < 3; what++) due("what " + what, x.question(0, what), due[what]);
        due("what 3", x.question(0, 3), NONE);
        due("what -1", x.question(0, -1), NONE);
        due("known -1", x.question(-1, 0), NONE);
        due("known 400", x.question(400, 0), NONE);
        x.read(0, 2, 1);
        due("the break is from 2 to 3: none", x.question(0, 0), NONE);
        due("unlike hands", x.question(0, 2), NONE);
        x.read(0, 0, 3);
        due("can't be explained", x.question(0, 0), NONE);
        x.watch(1);
        x.read(0, 1, 0);
        due("a miss of 0, or a break of branch 0, which 0 shows first", x.question(0, 0), 0);
        due("behind its pulse", x.question(0, 1), 1);
        due("two", x.question(0, 2), 2);
    }

    private static void rounds(int n) {
        promise = n;
        HallClock x = three();
        due("all right", x.rounds(0, NONE), 0);
        due("no first round", x.rounds(0, 0), NONE);
        due("h -1", x.rounds(-1, NONE), NONE);
        due("h 16", x.rounds(16, NONE), NONE);
        due("round 3", x.rounds(0, 3), NONE);
        due("round -2", x.rounds(0, -2), NONE);
        x.stop(true);
        x.minutes(30);
        due("one round of 30", x.rounds(0, 0), 30);
        due("is one", x.rounds(0, NONE), 1);
        due("no second", x.rounds(0, 1), NONE);
        x.minutes(1);
        due("two rounds of 31", x.rounds(0, NONE), 2);
        due("the least first", x.rounds(0, 0), 1);
        due("then the other", x.rounds(0, 1), 30);
        x.minutes(60);
        due("91: not by three", x.rounds(15, NONE), NONE);
        due("nor a round", x.rounds(15, 0), NONE);
        x.set(0, 1);
        x.set(1, 1);
        x.set(2, 1);
        due("90 by three", x.rounds(0, NONE), 3);
        due("the third is 30", x.rounds(0, 2), 30);
        roundsWithHands();
        roundsOfTurned();
        roundsAnew();
    }

    private static void roundsWithHands() {
        HallClock x = three();
        x.stop(true);
        x.minutes(20);
        x.set(0, 10);
        x.set(1, 13);
        x.set(2, 13);
        due("10, 7, 7 without hands", x.rounds(0, NONE), NONE);
        due("one hand is too few for two at once", x.rounds(1, NONE), 3);
        due("first", x.rounds(1, 0), 2);
        due("second", x.rounds(1, 1), 5);
        due("third", x.rounds(1, 2), 5);
        due("two hands", x.rounds(2, NONE), 2);
        due("first of two", x.rounds(2, 0), 3);
        due("second of two", x.rounds(2, 1), 7);
        x.hold(0, true);
        due("those held are let go first", x.rounds(2, NONE), 2);
        x.hang(0, 2);
        x.cut(2, true);
        due("none but 1 is reached", x.rounds(0, NONE), 1);
        due("its round", x.rounds(0, 0), 7);
        due("nothing has moved", x.at(1, 0), 13);
        x.cut(0, true);
        due("none is reached", x.rounds(0, NONE), 0);
    }

    /** Behind each change a plan is another one. */
    private static void roundsAnew() {
        HallClock x = three();
        x.stop(true);
        x.minutes(9);
        x.image();
        due("9", x.rounds(15, 0), 9);
        x.minutes(1);
        due("10", x.rounds(15, 0), 10);
        x.quick(2);
        due("8", x.rounds(15, 0), 8);
        x.storm(0, 0);
        due("7 and one more", x.rounds(15, NONE), 2);
        x.cut(0, true);
        due("branch 2 alone", x.rounds(15, 0), 8);
        x.set(2, 1);
        due("9 again", x.rounds(15, 0), 9);
        x.hang(0, 2);
        due("another one comes to it", x.rounds(15, NONE), 2);
        x.back();
        due("as at the image", x.rounds(15, 0), 9);
        x.worn(0, 0, 1);
        x.worn(1, 0, 1);
        x.worn(2, 0, 1);
        due("by twos: never", x.rounds(15, NONE), NONE);
        x.set(0, 1);
        x.set(1, 1);
        x.set(2, 1);
        due("by twos", x.rounds(15, 0), 4);
        x.dial(2, false, 6, 0);
        due("one more dial", x.rounds(15, NONE), 2);
    }

    private static void roundsOfTurned() {
        HallClock x = new HallClock();
        x.branch(NONE);
        x.dial(0, true, 719, 0);
        due("the first pulse has its sign", x.rounds(0, 0), 2);
        x.worn(0, 2, 0);
        due("no skip at 1", x.rounds(0, 0), 2);
        x.set(0, 718);
        due("a skip at 2", x.rounds(0, 0), 4);
        x.quick(1);
        due("the other sign now", x.rounds(0, 0), 3);
    }

    private static void feed(int n) {
        promise = n;
        HallClock x = new HallClock();
        due("feed", x.feed(0, 0, 0, 0, 0), 20);
        x.end(0);
        for (int i = 1; i <= 15; i++) due("feed " + i, x.feed(538976288, 538976288, 538976288, 538976288, 538976288), 20 * i);
        due("the 16th", x.feed(1, 2, 3, 4, 5), NONE);
        due("none came", x.about(9), 300);
        x.end(281);
        due("too many by one", x.feed(1, 2, 3, 4, 5), NONE);
        x.end(280);
        due("just so many", x.feed(0x72657374, 0x20646179, 0x3d303b20, 0x20202020, 0x20202020), 300);
        due("'rest day=0;' behind blanks", x.strip(), 0);
        x.feed(0x20ff2020, 0, 0, 0, 0);
        x.strip();
        due("a byte above 127 is none", x.fault(1), 1);
    }

    private static void end(int n) {
        promise = n;
        HallClock x = new HallClock();
        due("end(0)", x.end(0), 0);
        due("end(1)", x.end(1), NONE);
        due("end(-1)", x.end(-1), NONE);
        x.feed(0, 0, 0, 0, 0);
        due("end(21)", x.end(21), NONE);
        due("end(20)", x.end(20), 20);
        due("end(7)", x.end(7), 7);
        due("how many", x.about(9), 7);
        due("feed goes on there", x.feed(0, 0, 0, 0, 0), 27);
        due("end(MIN)", x.end(Integer.MIN_VALUE), NONE);
        due("nothing was done", x.about(9), 27);
    }

    private static void strip(int n) {
        promise = n;
        HallClock x = new HallClock();
        due("an empty one", x.strip(), 0);
        type(x, "ring 0 when 1=2;");
        due("the next", x.strip(), 1);
        due("the tape is empty", x.about(9), 0);
        type(x, "ring");
        due("with a fault", x.strip(), NONE);
        due("the tape is empty", x.about(9), 0);
        due("how many", x.about(5), 2);
        type(x, " \n ");
        due("blanks", x.strip(), 2);
        due("the 4th", x.strip(), 3);
        type(x, "ring");
        due("the 5th", x.strip(), NONE);
        due("the tape stays", x.about(9), 4);
        due("it was not read", x.fault(0), 0);
        good("ring0when minute<=1and hour>=2or not day#3;rest(1)=-1;");
        good("ring 003 when clock\n=\n0009999;");
        StringBuilder twelve = new StringBuilder();
        for (int i = 0; i < 12; i++) twelve.append("rest day=").append(i).append(";");
        good(twelve.toString());
        good("rest not not not not ((((1))))=1;");
        good("rest " + "1+".repeat(145) + "1=1; ");
        good("rest 1=1" + " or 1=1 and 1=2".repeat(19) + ";");
        good("rest --------1=1;");
        good("rest not -(-(-(-1)))=------(1) and not not not not not not not not 1=1;");
    }

    private static void good(String text) {
        HallClock x = new HallClock();
        type(x, text);
        due(text, x.strip(), 0);
        due(text + " fault", x.fault(0), 0);
        due(text + " place", x.fault(1), NONE);
    }

    private static void faulty(String text, int kind, int place) {
        HallClock x = new HallClock();
        type(x, text);
        due(text, x.strip(), NONE);
        due(text + " fault", x.fault(0), kind);
        due(text + " place", x.fault(1), place);
    }

    private static void fault(int n) {
        promise = n;
        HallClock x = new HallClock();
        due("ahead of any", x.fault(0), NONE);
        due("ahead of any", x.fault(1), NONE);
        x.strip();
        due("without", x.fault(0), 0);
        due("without", x.fault(1), NONE);
        due("fault(2)", x.fault(2), NONE);
        due("fault(-1)", x.fault(-1), NONE);
        faulty("Ring 0 when 1=1;", 1, 0);
        faulty("  !", 1, 2);
        faulty("99999", 1, 0);
        faulty("ring", 1, 4);
        faulty("ring  ", 1, 6);
        faulty("ring 4 when 1=1;", 2, 5);
        faulty("ring 99999999999999999999 when 1=1;", 2, 5);
        faulty("ring -1 when 1=1;", 1, 5);
        faulty("ring 1 1=1;", 1, 7);
        faulty("rest 10000=1;", 2, 5);
        faulty("rest -10000=1;", 2, 6);
        faulty("rest 1 10000=1;", 1, 7);
        faulty("rest 1;", 1, 6);
        faulty("rest 1=1=1;", 1, 8);
        faulty("rest (1=1);", 1, 7);
        faulty("rest 1)=1;", 1, 6);
        faulty("rest (1=1;", 1, 7);
        faulty("rest (not 1=1);", 1, 6);
        faulty("rest 1=not 1=1;", 1, 7);
        faulty("rest 1<>1;", 1, 7);
        faulty("rest 1< =1;", 1, 8);
        faulty("rest 1==1;", 1, 7);
        faulty("rest +1=1;", 1, 5);
        faulty("rest 1=1 and;", 1, 12);
        faulty("rest 1=1 and or 1=1;", 1, 13);
        faulty("rest 1=1", 1, 8);
        faulty("rest 1=1;;", 1, 9);
        faulty("rest minutes=1;", 1, 5);
        faulty("rest 1minute=1;", 1, 6);
        faulty("rest 1\t=1;", 1, 6);
        for (char letter : new char[] {'a', 'z', 'A', 'Z'}) faulty("ring" + letter + " 0", 1, 0);
        for (char none : new char[] {'@', '[', '`', '{', '_', ':', '/'}) faulty("ring" + none + " 0", 1, 4);
        faulty("rest 1:=1;", 1, 6);
        faulty(";".repeat(300), 1, 0);
        faulty("rest " + "(".repeat(295), 3, 13);
        faulty("rest " + "1+".repeat(147) + "1", 1, 300);
        faulty("rest not not not not not not not not not 1=1;", 3, 37);
        faulty("rest (((((((((1)))))))))=1;", 3, 13);
        faulty("rest ---------1=1;", 3, 13);
        faulty("rest not not (-(-(-(-1))))=1;", 3, 19);
        faulty("rest not 1=1 and ((((((((1-(1)))))))))=1;", 3, 27);
        faulty("rest not not not not not not not not ;", 1, 37);
        StringBuilder rows = new StringBuilder();
        for (int i = 0; i < 12; i++) rows.append("rest day=1;");
        faulty(rows + " rest day=1;", 4, 133);
        faulty(rows + " ring 9", 4, 133);
        faulty(rows + " when", 1, 133);
        x = new HallClock();
        type(x, "!");
        x.strip();
        x.image();
        x.strip();
        x.back();
        due("the latest fault is not of the image", x.fault(0), 0);
    }

    private static void by(int n) {
        promise = n;
        HallClock x = new HallClock();
        yes("by(NONE)", x.by(NONE));
        no("by(0)", x.by(0));
        no("by(-2)", x.by(-2));
        type(x, "ring 0 when 1=1;");
        x.strip();
        type(x, "ring 1 when 1=1;");
        x.strip();
        due("none was told", x.rings(0, 0), 0);
        yes("by(1)", x.by(1));
        no("by(2)", x.by(2));
        due("by 1", x.rings(0, 0), 0);
        due("by 1", x.rings(1, 0), 1);
        yes("by(0)", x.by(0));
        due("by 0", x.rings(0, 0), 1);
        yes("the same again", x.by(0));
        due("the strip", x.about(6), 0);
        yes("by(NONE)", x.by(NONE));
        due("by none", x.rings(0, 0), 0);
    }

    private static void so(String ask, int minute, boolean is) {
        HallClock x = ringing("ring 2 when " + ask + ";");
        due(ask + " at " + minute, x.rings(2, minute), is ? 1 : 0);
    }

    private static void rings(int n) {
        promise = n;
        HallClock x = ringing("ring 0 when minute=5;ring 1 when hour=5;ring 0 when date=3;rest clock=5;");
        due("bell 4", x.rings(4, 0), NONE);
        due("bell -1", x.rings(-1, 0), NONE);
        due("minute -1", x.rings(0, -1), NONE);
        due("minute 576000", x.rings(0, 576000), NONE);
        due("minute 575999", x.rings(0, 575999), 0);
        due("one row", x.rings(0, 65), 1);
        due("the other", x.rings(0, 3 * 1440 + 7), 1);
        due("rest", x.rings(0, 5), 0);
        due("rest too", x.rings(0, 3 * 1440 + 5), 0);
        due("bell 1", x.rings(1, 300), 1);
        due("bell 2", x.rings(2, 300), 0);
        words();
        sums();
    }

    private static void words() {
        int t = 399 * 1440 + 23 * 60 + 59;
        so("minute=59", t, true);
        so("hour=23", t, true);
        so("clock=1439", t, true);
        so("day=0", t, true);
        so("date=399", t, true);
        so("day=6", t - 1440, true);
        so("1<2", 0, true);
        so("2<2", 0, false);
        so("2<=2", 0, true);
        so("3<=2", 0, false);
        so("3>2", 0, true);
        so("2>2", 0, false);
        so("2>=2", 0, true);
        so("1>=2", 0, false);
        so("1#2", 0, true);
        so("2#2", 0, false);
        so("not 1=2", 0, true);
        so("not not 1=2", 0, false);
        so("1=1 or 1=1 and 1=2", 0, true);
        so("1=2 and 1=1 or 1=1", 0, true);
        so("not 1=1 or 1=1", 0, true);
        so("not 1=1 and 1=2", 0, false);
        so("1=2 and 1=2 or 1=2", 0, false);
    }

    private static void sums() {
        so("7-2-1=4", 0, true);
        so("1+2*3=7", 0, true);
        so("(1+2)*3=9", 0, true);
        so("100/7/2=7", 0, true);
        so("100/7*2%5=3", 0, true);
        so("-7/2=-3", 0, true);
        so("-7%2=-1", 0, true);
        so("7%-2=1", 0, true);
        so("-(7%2)=-1", 0, true);
        so("-7*2=-14", 0, true);
        so("--7=7", 0, true);
        so("3--7=10", 0, true);
        so("5/0=0", 0, true);
        so("5%0=0", 0, true);
        so("9999*9999=9999*101", 0, true);
        so("9999*9999-1=9999*100+99*1+0", 0, true);
        so("9999*9999-1=9999*100+100", 0, false);
        so("-9999*9999=-9999*101", 0, true);
        so("-9999*9999*9999*9999=-9999*101", 0, true);
        so("9999*9999*9999/9999=100", 0, true);
        so("9999*100+100+1=9999*100+100", 0, true);
        so("-9999*100-100-1+1=-9999*100-99", 0, true);
        so("-9999*100-100-1-1=-9999*100-100", 0, true);
    }

    private static void next(int n) {
        promise = n;
        HallClock x = ringing("ring 0 when clock=7;ring 1 when date=20 and clock=0;ring 2 when date=399 and clock=1439;");
        due("at it", x.next(0, 7), 7);
        due("behind it", x.next(0, 8), 1447);
        due("one minute too far", x.next(1, 0), NONE);
        due("just within", x.next(1, 1), 28800);
        due("behind", x.next(1, 28801), NONE);
        due("the last minute of all", x.next(2, 575999), 575999);
        due("nothing beyond the last", x.next(0, 575999), NONE);
        due("a bell without a row", x.next(3, 0), NONE);
        for (int wrong : new int[] {-1, 4, Integer.MAX_VALUE}) due("bell " + wrong, x.next(wrong, 0), NONE);
        for (int wrong : new int[] {-1, 576000, Integer.MAX_VALUE}) due("from " + wrong, x.next(0, wrong), NONE);
        x.by(NONE);
        due("without a strip", x.next(0, 0), NONE);
        x = ringing("ring 0 when day=6 and minute=59 and hour=23;");
        due("within the week", x.next(0, 0), 10079);
        due("at the week's end", x.next(0, 10080), 20159);
        x = ringing("ring 0 when 1=1;ring 1 when minute=0;");
        due("always", x.next(0, 575), 575);
        due("each hour", x.next(1, 1), 60);
    }

    private static void often(int n) {
        promise = n;
        HallClock x = ringing("ring 0 when minute=0;ring 1 when date=399;rest hour=3;");
        due("each hour but one", x.often(0, 0), 23);
        due("the last day", x.often(1, 399), 1380);
        due("another day", x.often(1, 398), 0);
        due("no row", x.often(2, 0), 0);
        due("day 400", x.often(0, 400), NONE);
        due("day -1", x.often(0, -1), NONE);
        due("bell 4", x.often(4, 0), NONE);
        due("bell -1", x.often(-1, 0), NONE);
        x.by(NONE);
        due("without a strip", x.often(0, 0), 0);
    }

    private static void together(int n) {
        promise = n;
        HallClock x = ringing("ring 0 when clock%7=0;ring 1 when clock%11=0;ring 2 when date=20 and clock=0;ring 3 when clock=1439;");
        due("at once", x.together(0, 1, 0), 0);
        due("77", x.together(0, 1, 1), 77);
        due("likewise", x.together(1, 0, 1), 77);
        due("one minute too far", x.together(0, 2, 0), NONE);
        due("just within", x.together(0, 2, 1), 28800);
        due("never", x.together(0, 3, 0), NONE);
        due("the last minute", x.together(3, 3, 574561), 575999);
        due("bell 4", x.together(0, 4, 0), NONE);
        due("bell -1", x.together(-1, 0, 0), NONE);
        due("from -1", x.together(0, 1, -1), NONE);
        due("from 576000", x.together(0, 1, 576000), NONE);
    }

    private static void late(int n) {
        promise = n;
        HallClock x = ringing("ring 0 when clock=0;ring 1 when clock=1 and date=0;ring 2 when clock=400;");
        x.branch(NONE);
        x.dial(0, false, 0, 0);
        due("now", x.late(0, NONE), 0);
        due("not yet", x.late(1, NONE), NONE);
        due("bell 4", x.late(4, NONE), NONE);
        due("bell -1", x.late(-1, NONE), NONE);
        due("dial 1", x.late(0, 1), NONE);
        due("dial -2", x.late(0, -2), NONE);
        to(x, 1439);
        due("just within", x.late(0, NONE), 1439);
        to(x, 1440);
        due("again", x.late(0, NONE), 0);
        due("1439 ago", x.late(1, NONE), 1439);
        to(x, 1441);
        due("1440 ago", x.late(1, NONE), NONE);
        x.stop(true);
        to(x, 2200);
        x.set(0, 2200 % 720);
        due("a right dial", x.late(0, 0), 760);
        x.set(0, (2200 - 360) % 720);
        due("of two the one ahead: 1840", x.late(2, 0), 0);
        x.set(0, (2200 - 361) % 720);
        due("the nearer: 2559", x.late(2, 0), 719);
        x.set(0, (2200 + 10) % 720);
        due("a dial that goes ahead: 2210", x.late(2, 0), 370);
        lateAtTheEnds();
    }

    private static void lateAtTheEnds() {
        HallClock x = ringing("ring 0 when clock=0;");
        x.branch(NONE);
        x.dial(0, false, 719, 0);
        due("not -1 but 719", x.late(0, 0), 719);
        x.stop(true);
        to(x, 575990);
        x.set(0, 575999 % 720);
        due("575999", x.late(0, 0), 1439);
        x.set(0, 0);
        due("not 576000 but 575280", x.late(0, 0), 720);
    }

    private static void lesson(int n) {
        promise = n;
        HallClock x = ringing("ring 0 when clock=480;ring 1 when clock=525;ring 2 when clock=480 and date=0;ring 3 when date=399 and hour=20 and minute=0;");
        due("none yet", x.lesson(0, 1), NONE);
        to(x, 480);
        due("at its beginning", x.lesson(0, 1), 45);
        to(x, 900);
        due("behind its end", x.lesson(0, 1), 45);
        due("the other way: to the next day", x.lesson(1, 0), 1395);
        due("the same bell: a day on", x.lesson(0, 0), 1440);
        due("not again", x.lesson(0, 2), NONE);
        due("bell 4", x.lesson(4, 0), NONE);
        due("bell -1", x.lesson(0, -1), NONE);
        to(x, 480 + 1439);
        due("1439 ago", x.lesson(2, 1), 45);
        to(x, 480 + 1440);
        due("1440 ago", x.lesson(2, 1), NONE);
        x.stop(true);
        to(x, 575990);
        due("no next one ahead of the end of all", x.lesson(3, 1), NONE);
        x.by(NONE);
        due("without a strip", x.lesson(0, 1), NONE);
    }

    private static void image(int n) {
        promise = n;
        HallClock x = three();
        x.minutes(7);
        due("image()", x.image(), 7);
        x.minutes(5);
        due("back()", x.back(), 7);
        due("hands", x.at(0, 0), 7);
        x.minutes(1);
        due("image() anew", x.image(), 8);
        x.minutes(1);
        due("back() to the newer", x.back(), 8);
    }

    private static void back(int n) {
        promise = n;
        HallClock x = three();
        x.minutes(3);
        x.worn(1, 2, 3);
        x.hold(1, true);
        x.cut(2, true);
        x.stop(true);
        x.watch(4);
        x.read(0, 4, 6);
        type(x, "ring 0 when 1=1;");
        x.strip();
        x.by(0);
        x.image();
        int few = x.fewest(0);
        due("fewest", few, 1);
        x.set(0, 99);
        x.worn(1, 0, 0);
        x.hold(1, false);
        x.cut(2, false);
        x.stop(false);
        x.hang(1, 2);
        x.branch(0);
        x.dial(0, true, 5, 0);
        x.minutes(2000);
        x.read(0, 4, 7);
        due("fewest", x.fewest(1), NONE);
        x.watch(9);
        type(x, "ring 1 when 1=1;");
        x.strip();
        x.by(1);
        type(x, "abc");
        x.end(3);
        for (int i = 0; i < 2; i++) {
            due("back()", x.back(), 3);
            int[] about = {3, 1, 1, 3, 3, 1, 0, 1, 4, 3};
            for (int what = 0; what < 10; what++) due("about(" + what + ")", x.about(what), about[what]);
            due("hands", x.at(0, 0), 3);
            due("held", x.at(1, 5), 1);
            due("branch", x.at(1, 4), 1);
            due("broken", x.about(22), 1);
            due("a branch that is gone", x.about(23), NONE);
            due("fewest", x.fewest(0), 1);
            no("a strip that is gone", x.by(1));
            due("rings", x.rings(0, 0), 1);
            x.hold(1, false);
            x.quick(1);
            due("worn: count 4 skips", x.at(1, 0), 3);
        }
        x.end(0);
        type(x, "ring 2 when 1=1;");
        due("its number is free again", x.strip(), 1);
        x.by(1);
        due("and has the new text", x.rings(1, 0), 0);
        due("and has the new text", x.rings(2, 0), 1);
    }

    private static void about(int n) {
        promise = n;
        HallClock x = three();
        x.minutes(3);
        x.stop(true);
        x.cut(1, true);
        x.watch(5);
        x.read(0, 0, 3);
        x.read(1, 0, 3);
        x.strip();
        x.strip();
        x.by(1);
        x.feed(0, 0, 0, 0, 0);
        int[] due = {3, 1, 1, 3, 3, 2, 1, 2, 5, 20};
        for (int what = 0; what < 10; what++) due("about(" + what + ")", x.about(what), due[what]);
        for (int what = 10; what < 20; what++) due("about(" + what + ")", x.about(what), NONE);
        due("about(20)", x.about(20), 0);
        due("about(21)", x.about(21), 1);
        due("about(22)", x.about(22), 0);
        due("about(23)", x.about(23), NONE);
        due("about(28)", x.about(28), NONE);
        due("about(-1)", x.about(-1), NONE);
        for (int wild : WILD) due("about(" + wild + ")", x.about(wild), NONE);
    }
}
