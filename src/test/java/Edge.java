/** What the tests of edges share: the sentence that is tested, what is not as due, and clocks to begin with. */
final class Edge {
    static final int NONE = HallClock.NONE;
    static final int LEAST = Integer.MIN_VALUE;
    static final int MOST = Integer.MAX_VALUE;
    private static String sentence = "";
    private static int bad = 0;

    private Edge() {}

    /** The words of the document that the next rows test. */
    static void says(String words) {
        sentence = words;
    }

    static void due(String what, int got, int want) {
        if (got != want) {
            bad++;
            System.out.println("\"" + sentence + "\": " + what + " answered " + got + ", due is " + want);
        }
    }

    static void yes(String what, boolean got) { due(what, got ? 1 : 0, 1); }
    static void no(String what, boolean got) { due(what, got ? 1 : 0, 0); }

    static void close(String good) {
        System.out.println(bad == 0 ? good : bad + " answers are not as due");
        if (bad != 0) System.exit(1);
    }

    /** A branch from the hall with plain dials at these hands, their last sign 1. */
    static HallClock plain(int... hands) {
        HallClock x = new HallClock();
        x.branch(NONE);
        for (int h : hands) x.dial(0, false, h, 1);
        return x;
    }

    /** The same with turned dials that are ready for the first pulse. */
    static HallClock turned(int... hands) {
        HallClock x = new HallClock();
        x.branch(NONE);
        for (int h : hands) x.dial(0, true, h, 1);
        return x;
    }

    /** Eight branches, each behind the one with the number ahead, with a plain dial each. */
    static HallClock chain() {
        HallClock x = new HallClock();
        for (int b = 0; b < 8; b++) x.branch(b - 1);
        for (int b = 0; b < 8; b++) x.dial(b, false, 0, 1);
        return x;
    }

    /** Brings a text behind what the tape has. */
    static void type(HallClock x, String text) {
        int first = x.about(9);
        StringBuilder padded = new StringBuilder(text);
        while (padded.length() % 20 != 0) padded.append(' ');
        for (int i = 0; i < padded.length(); i += 20) {
            int[] five = new int[5];
            for (int k = 0; k < 20; k++) five[k / 4] = five[k / 4] << 8 | padded.charAt(i + k);
            x.feed(five[0], five[1], five[2], five[3], five[4]);
        }
        x.end(first + text.length());
    }

    /** A clock without dials that rings by this text. */
    static HallClock ringing(String text) {
        HallClock x = new HallClock();
        type(x, text);
        due("strip of " + text, x.strip(), 0);
        yes("by(0)", x.by(0));
        return x;
    }

    /** Lets minutes go by up to one; a call for each ten thousand. */
    static void to(HallClock x, int minute) {
        for (int m = x.about(0); m < minute; ) m = x.minutes(Math.min(10000, minute - m));
    }

    static void good(String text) {
        HallClock x = new HallClock();
        type(x, text);
        due("strip of " + text, x.strip(), 0);
        due("fault of " + text, x.fault(0), 0);
        due("place in " + text, x.fault(1), NONE);
    }

    static void faulty(String text, int kind, int place) {
        HallClock x = new HallClock();
        type(x, text);
        due("strip of " + text, x.strip(), NONE);
        due("fault of " + text, x.fault(0), kind);
        due("place in " + text, x.fault(1), place);
    }

    /** Whether this ask is so at a minute. */
    static void so(String ask, int minute, boolean is) {
        HallClock x = ringing("ring 2 when " + ask + ";");
        due(ask + " at " + minute, x.rings(2, minute), is ? 1 : 0);
    }
}
