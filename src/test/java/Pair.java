/** The class and the model side by side: each call goes to both, and their answers must be alike. */
final class Pair {
    final HallClock x = new HallClock();
    final Model y = new Model();
    private final StringBuilder log = new StringBuilder();
    boolean unlike = false;

    private int due(String call, int got, int want) {
        log.append(call).append(" -> ").append(want).append('\n');
        if (got != want && !unlike) {
            unlike = true;
            System.out.println(log + "LAST ROW: HallClock answered " + got + ", the model " + want);
        }
        return got;
    }

    private static int bit(boolean is) {
        return is ? 1 : 0;
    }

    int branch(int a) { return due("branch(" + a + ")", x.branch(a), y.branch(a)); }
    int dial(int a, boolean b, int c, int d) { return due("dial(" + a + ", " + b + ", " + c + ", " + d + ")", x.dial(a, b, c, d), y.dial(a, b, c, d)); }
    int worn(int a, int b, int c) { return due("worn(" + a + ", " + b + ", " + c + ")", bit(x.worn(a, b, c)), bit(y.worn(a, b, c))); }
    int hang(int a, int b) { return due("hang(" + a + ", " + b + ")", bit(x.hang(a, b)), bit(y.hang(a, b))); }
    int set(int a, int b) { return due("set(" + a + ", " + b + ")", bit(x.set(a, b)), bit(y.set(a, b))); }
    int cut(int a, boolean b) { return due("cut(" + a + ", " + b + ")", bit(x.cut(a, b)), bit(y.cut(a, b))); }
    int hold(int a, boolean b) { return due("hold(" + a + ", " + b + ")", bit(x.hold(a, b)), bit(y.hold(a, b))); }
    int stop(boolean a) { return due("stop(" + a + ")", bit(x.stop(a)), bit(y.stop(a))); }
    int minutes(int a) { return due("minutes(" + a + ")", x.minutes(a), y.minutes(a)); }
    int quick(int a) { return due("quick(" + a + ")", x.quick(a), y.quick(a)); }
    int storm(int a, int b) { return due("storm(" + a + ", " + b + ")", x.storm(a, b), y.storm(a, b)); }
    int at(int a, int b) { return due("at(" + a + ", " + b + ")", x.at(a, b), y.at(a, b)); }
    int wrong() { return due("wrong()", x.wrong(), y.wrong()); }
    int watch(int a) { return due("watch(" + a + ")", x.watch(a), y.watch(a)); }
    int read(int a, int b, int c) { return due("read(" + a + ", " + b + ", " + c + ")", x.read(a, b, c), y.read(a, b, c)); }
    int fewest(int a) { return due("fewest(" + a + ")", x.fewest(a), y.fewest(a)); }
    int broken(int a, int b, int c) { return due("broken(" + a + ", " + b + ", " + c + ")", x.broken(a, b, c), y.broken(a, b, c)); }
    int question(int a, int b) { return due("question(" + a + ", " + b + ")", x.question(a, b), y.question(a, b)); }
    int rounds(int a, int b) { return due("rounds(" + a + ", " + b + ")", x.rounds(a, b), y.rounds(a, b)); }
    int feed(int a, int b, int c, int d, int e) { return due("feed(" + a + ", " + b + ", " + c + ", " + d + ", " + e + ")", x.feed(a, b, c, d, e), y.feed(a, b, c, d, e)); }
    int end(int a) { return due("end(" + a + ")", x.end(a), y.end(a)); }
    int strip() { return due("strip()", x.strip(), y.strip()); }
    int fault(int a) { return due("fault(" + a + ")", x.fault(a), y.fault(a)); }
    int by(int a) { return due("by(" + a + ")", bit(x.by(a)), bit(y.by(a))); }
    int rings(int a, int b) { return due("rings(" + a + ", " + b + ")", x.rings(a, b), y.rings(a, b)); }
    int next(int a, int b) { return due("next(" + a + ", " + b + ")", x.next(a, b), y.next(a, b)); }
    int often(int a, int b) { return due("often(" + a + ", " + b + ")", x.often(a, b), y.often(a, b)); }
    int together(int a, int b, int c) { return due("together(" + a + ", " + b + ", " + c + ")", x.together(a, b, c), y.together(a, b, c)); }
    int late(int a, int b) { return due("late(" + a + ", " + b + ")", x.late(a, b), y.late(a, b)); }
    int lesson(int a, int b) { return due("lesson(" + a + ", " + b + ")", x.lesson(a, b), y.lesson(a, b)); }
    int image() { return due("image()", x.image(), y.image()); }
    int back() { return due("back()", x.back(), y.back()); }
    int about(int a) { return due("about(" + a + ")", x.about(a), y.about(a)); }

    /** Brings a text onto the tape, which must be empty; the log shows the text itself. */
    void type(String text) {
        log.append("// ").append(text.replace("\n", "\\n")).append('\n');
        StringBuilder padded = new StringBuilder(text);
        while (padded.length() % 20 != 0) padded.append(' ');
        for (int i = 0; i < padded.length(); i += 20) {
            int[] five = new int[5];
            for (int k = 0; k < 20; k++) five[k / 4] = five[k / 4] << 8 | padded.charAt(i + k);
            feed(five[0], five[1], five[2], five[3], five[4]);
        }
        end(text.length());
    }
}
