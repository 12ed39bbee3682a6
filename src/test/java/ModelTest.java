import java.util.Random;

/** Random runs, the same in every session, of the class against the model. */
public final class ModelTest {
    private static int bad = 0;
    private static final int[] ODD = {Integer.MIN_VALUE, Integer.MAX_VALUE, -2, -1, 0, 1, 2, 3, 7, 8, 15, 16, 20, 27, 28, 719, 720, 999, 1000, 1439, 1440, 10000, 575999, 576000};

    private static int odd(Random r, int usual) {
        return r.nextInt(12) == 0 ? ODD[r.nextInt(ODD.length)] : r.nextInt(Math.max(1, usual));
    }

    public static void main(String[] args) {
        int times = args.length > 0 ? Integer.parseInt(args[0]) : 1;
        for (int seed = 0; seed < 150 * times; seed++) end("clock", seed, clock(new Random(seed)));
        for (int seed = 0; seed < 120 * times; seed++) end("watch", seed, watch(new Random(1000 + seed), false));
        for (int seed = 0; seed < 3 * times; seed++) end("full watch", seed, watch(new Random(6000000 + seed), true));
        for (int seed = 0; seed < 40 * times; seed++) end("rounds", seed, rounds(new Random(2000000 + seed)));
        for (int seed = 0; seed < 60 * times; seed++) end("planned rounds", seed, plannedRounds(new Random(5000000 + seed), seed % 6 == 0));
        for (int seed = 0; seed < 400 * times; seed++) end("faults", seed, faults(new Random(3000000 + seed)));
        for (int seed = 0; seed < 60 * times; seed++) end("bells", seed, bells(new Random(4000000 + seed)));
        System.out.println(bad == 0 ? "class and model are alike" : bad + " runs are unlike");
        if (bad != 0) System.exit(1);
    }

    private static void end(String kind, int seed, Pair p) {
        if (p.unlike) {
            bad++;
            System.out.println("-- " + kind + " run " + seed);
        }
    }

    private static void wires(Pair p, Random r, int branches, int dials) {
        for (int b = 0; b < branches; b++) p.branch(r.nextInt(b + 1) - 1);
        for (int d = 0; d < dials; d++) {
            p.dial(r.nextInt(branches), r.nextBoolean(), r.nextInt(720), r.nextInt(2));
            if (r.nextInt(2) == 0) p.worn(d, r.nextInt(5), r.nextInt(5));
        }
    }

    private static Pair clock(Random r) {
        Pair p = new Pair();
        if (r.nextInt(4) != 0) wires(p, r, 1 + r.nextInt(6), r.nextInt(10));
        for (int i = 0; i < 200 && !p.unlike; i++) {
            switch (r.nextInt(19)) {
                case 0: p.branch(odd(r, 8) - r.nextInt(2)); break;
                case 1: p.dial(odd(r, 4), r.nextBoolean(), odd(r, 720), odd(r, 2)); break;
                case 2: p.worn(odd(r, 8), odd(r, r.nextBoolean() ? 5 : 1000), odd(r, r.nextBoolean() ? 5 : 1000)); break;
                case 3: p.hang(odd(r, 8), odd(r, 5)); break;
                case 4: p.set(odd(r, 8), odd(r, 720)); break;
                case 5: p.cut(odd(r, 5), r.nextInt(3) == 0); break;
                case 6: p.hold(odd(r, 8), r.nextInt(3) == 0); break;
                case 7: p.stop(r.nextInt(3) == 0); break;
                case 8: case 9: p.minutes(odd(r, r.nextInt(9) == 0 ? 10002 : 20)); break;
                case 10: p.quick(odd(r, r.nextInt(9) == 0 ? 1442 : 20)); break;
                case 11: case 12: p.storm(odd(r, 5), odd(r, 2)); break;
                case 13: p.wrong(); break;
                case 14: p.about(odd(r, 30)); break;
                case 15: if (r.nextInt(3) == 0) p.image(); break;
                case 16: if (r.nextInt(6) == 0) p.back(); break;
                default: p.at(odd(r, 8), odd(r, 7));
            }
        }
        for (int d = 0; d < 16; d++) for (int what = 0; what < 7; what++) p.at(d, what);
        for (int what = 0; what < 30; what++) p.about(what);
        return p;
    }

    private static Pair watch(Random r, boolean full) {
        Pair p = new Pair();
        int branches = full ? 8 : 1 + r.nextInt(4);
        int dials = full ? 16 : 1 + r.nextInt(4);
        wires(p, r, branches, dials);
        if (r.nextBoolean()) p.quick(1 + r.nextInt(9));
        if (r.nextInt(3) == 0) p.cut(r.nextInt(branches), true);
        if (r.nextInt(3) == 0) p.hold(r.nextInt(dials), true);
        boolean longOne = r.nextInt(12) == 0;
        int n = full ? 10 : longOne ? 7 + r.nextInt(4) : 1 + r.nextInt(6);
        p.watch(n);
        if (r.nextBoolean()) p.hang(0, r.nextInt(branches));
        if (r.nextBoolean()) p.branch(-1);
        if (r.nextBoolean()) p.dial(0, false, 1, 1);
        int[][] truth = showing(p, r, n);
        int reads = 1 + r.nextInt(longOne ? 6 : 12);
        for (int i = 0; i < reads && !p.unlike; i++) {
            int d = r.nextInt(truth.length);
            int pulse = r.nextInt(n + 1);
            int noise = r.nextInt(9) == 0 ? r.nextInt(3) - 1 : 0;
            p.read(d, pulse, (truth[d][pulse] + noise + 720) % 720);
            if (r.nextInt(3) == 0) p.minutes(r.nextInt(900) + 1);
            if (r.nextInt(8) == 0) p.read(odd(r, 9), odd(r, 11), odd(r, 720));
            if (r.nextInt(10) == 0) p.image();
            if (r.nextInt(25) == 0) p.back();
            int known = r.nextInt(4) == 0 ? odd(r, 3) : p.about(0) / 1440;
            if (r.nextInt(3) == 0) askAll(p, r, known, n, branches);
        }
        askAll(p, r, p.about(0) / 1440, n, branches);
        return p;
    }

    private static void askAll(Pair p, Random r, int known, int n, int branches) {
        if (p.fewest(known) == -1 && r.nextInt(4) != 0) return;
        for (int i = 0; i < 4; i++) p.broken(known, odd(r, branches), 1 + odd(r, n));
        for (int what = 0; what < 3; what++) p.question(known, what);
        p.question(known, odd(r, 4));
    }

    /** What the dials would show with some mishaps. */
    private static int[][] showing(Pair p, Random r, int n) {
        Model.W w = p.y.s.watch;
        java.util.List<java.util.List<int[]>> sets = p.y.breakSets(w);
        java.util.List<int[]> set = sets.get(r.nextInt(sets.size()));
        int[][] hands = new int[w.dials.size()][n + 1];
        for (int d = 0; d < w.dials.size(); d++) {
            Model.D x = w.dials.get(d).copy();
            hands[d][0] = x.hands;
            for (int i = 1; i <= n; i++) {
                if (Model.reaches(w, set, x.branch, i) && r.nextInt(12) != 0) {
                    boolean did = x.pulse((w.sign + i - 1) % 2);
                    if (did && r.nextInt(12) == 0) x.hands = (x.hands + 1) % 720;
                }
                hands[d][i] = x.hands;
            }
        }
        return hands;
    }

    private static Pair rounds(Random r) {
        Pair p = new Pair();
        int branches = 1 + r.nextInt(3);
        for (int b = 0; b < branches; b++) p.branch(r.nextInt(b + 1) - 1);
        if (r.nextBoolean()) p.quick(1);
        p.minutes(1 + r.nextInt(5000));
        int many = r.nextInt(8);
        int spread = r.nextInt(3) == 0 ? 70 : 1 + r.nextInt(30);
        int unlikes = 1 + r.nextInt(4);
        int[] behinds = new int[unlikes];
        for (int i = 0; i < unlikes; i++) behinds[i] = r.nextInt(spread);
        for (int d = 0; d < many; d++) {
            int hands = Math.floorMod(p.about(0) - behinds[r.nextInt(unlikes)], 720);
            p.dial(r.nextInt(branches), r.nextInt(3) == 0, hands, r.nextInt(2));
            if (r.nextInt(3) == 0) p.worn(d, r.nextInt(6), r.nextInt(6));
            if (r.nextInt(6) == 0) p.hold(d, true);
        }
        if (r.nextInt(4) == 0) p.cut(r.nextInt(branches), true);
        int h = r.nextInt(many + 1);
        for (int round = -1; round < 3 && !p.unlike; round++) p.rounds(h, round);
        p.rounds(odd(r, 5), -1);
        p.quick(1 + r.nextInt(3));
        p.rounds(h, -1);
        p.rounds(h, odd(r, 3));
        p.rounds(odd(r, 20), odd(r, 3));
        return p;
    }

    /** Dials that some rounds put right for sure, so that plans of three rounds are found too. */
    private static Pair plannedRounds(Random r, boolean full) {
        Pair p = new Pair();
        p.branch(-1);
        p.minutes(1 + r.nextInt(3000));
        int[] lengths = new int[2 + r.nextInt(2)];
        for (int i = 0; i < lengths.length; i++) lengths[i] = 1 + r.nextInt(30);
        int many = full ? 16 : 2 + r.nextInt(6);
        int[] held = new int[3];
        for (int d = 0; d < many; d++) {
            p.dial(0, r.nextInt(3) == 0, 0, r.nextInt(2));
            if (r.nextInt(3) == 0) p.worn(d, r.nextInt(5), r.nextInt(5));
            int holds = r.nextInt(1 << lengths.length);
            Model.D x = p.y.s.dials.get(d).copy();
            int sign = p.y.s.sign;
            for (int i = 0; i < lengths.length; i++) {
                x.held = (holds >> i & 1) != 0;
                held[i] += holds >> i & 1;
                for (int k = 0; k < lengths[i]; k++, sign = 1 - sign) x.pulse(sign);
            }
            p.set(d, Math.floorMod(p.about(0) - x.hands, 720));
        }
        int h = Math.min(15, Math.max(held[0], Math.max(held[1], held[2])));
        for (int round = -1; round < 3; round++) p.rounds(h, round);
        p.rounds(Math.max(0, h - 1), -1);
        p.rounds(Math.max(0, h - 1), 0);
        change(p, r, many);
        p.rounds(h, -1);
        p.rounds(h, 0);
        return p;
    }

    /** One change of any kind, behind which a plan must be made anew. */
    private static void change(Pair p, Random r, int many) {
        int d = r.nextInt(many);
        switch (r.nextInt(9)) {
            case 0: p.minutes(1 + r.nextInt(3)); break;
            case 1: p.quick(1 + r.nextInt(3)); break;
            case 2: p.storm(0, r.nextInt(2)); break;
            case 3: p.set(d, p.about(0) % 720); break;
            case 4: p.worn(d, r.nextInt(5), r.nextInt(5)); break;
            case 5: p.cut(0, true); break;
            case 6: p.hang(d, p.branch(-1)); break;
            case 7: p.dial(0, false, p.about(0) % 720, 0); break;
            default: p.back();
        }
    }

    private static final String[] TOKENS = {"ring", "rest", "when", "or", "and", "not", "minute", "hour", "clock", "day", "date",
        "<", "<=", ">", ">=", "=", "#", "+", "-", "*", "/", "%", "(", ")", ";", "0", "3", "4", "9999", "10000", "007", "99999999999",
        "Ring", "mins", "a", "z", "A", "Z", "@", "[", "`", "{", ":", "!", "\t", "é", "\n", "&"};

    private static String blank(Random r) {
        return r.nextInt(9) == 0 ? "\n" : r.nextInt(6) == 0 ? "  " : " ";
    }

    private static String one(Random r, int deep) {
        switch (r.nextInt(deep > 0 ? 10 : 7)) {
            case 0: return "minute";
            case 1: return "hour";
            case 2: return "clock";
            case 3: return r.nextBoolean() ? "day" : "date";
            case 4: case 5: case 6: return "" + r.nextInt(r.nextInt(3) == 0 ? 10000 : r.nextInt(2) == 0 ? 1500 : 61);
            case 7: return "-" + (r.nextBoolean() ? " " : "") + one(r, deep - 1);
            default: return "(" + sum(r, deep - 1) + ")";
        }
    }

    private static String sum(Random r, int deep) {
        StringBuilder text = new StringBuilder(one(r, deep));
        for (int i = r.nextInt(3); i > 0; i--)
            text.append(r.nextBoolean() ? blank(r) : "").append("+-*/%%".charAt(r.nextInt(6))).append(one(r, deep));
        return text.toString();
    }

    private static final String[] HOWS = {"<", "<=", ">", ">=", "=", "=", "#"};

    private static String ask(Random r, int deep) {
        if (r.nextInt(5) == 0) return "not " + ask(r, deep - 1);
        return sum(r, deep) + HOWS[r.nextInt(7)] + sum(r, deep);
    }

    private static String either(Random r, int deep) {
        StringBuilder text = new StringBuilder(ask(r, deep));
        for (int i = r.nextInt(3); i > 0; i--) text.append(r.nextInt(3) == 0 ? " or " : " and ").append(ask(r, deep));
        return text.toString();
    }

    private static String text(Random r, int rows, int deep) {
        StringBuilder text = new StringBuilder();
        for (int i = 0; i < rows; i++) {
            String row = (r.nextInt(4) == 0 ? "rest" : "ring" + blank(r) + r.nextInt(4) + " when") + blank(r) + either(r, deep) + ";";
            if (text.length() + row.length() <= 300) text.append(row);
        }
        return text.toString();
    }

    private static String fit(String text) {
        return text.length() > 300 ? text.substring(0, 300) : text;
    }

    private static Pair faults(Random r) {
        Pair p = new Pair();
        p.fault(0);
        for (int i = 0; i < 12 && !p.unlike; i++) {
            StringBuilder text = new StringBuilder(text(r, 1 + r.nextInt(3), 2));
            if (r.nextInt(5) == 0) text = new StringBuilder(shortRows(r));
            if (r.nextInt(5) == 0) text = new StringBuilder(deepRow(r));
            if (r.nextInt(3) != 0) {
                int where = r.nextInt(text.length() + 1);
                int upTo = Math.min(text.length(), where + r.nextInt(3));
                text.replace(where, upTo, TOKENS[r.nextInt(TOKENS.length)]);
            }
            if (r.nextInt(6) == 0) text.setLength(r.nextInt(text.length() + 1));
            p.type(fit(text.toString()));
            p.strip();
            p.fault(0);
            p.fault(1);
            p.about(5);
            p.about(9);
            if (p.about(5) == 4) p.back();
            if (p.about(9) > 0) p.end(0);
        }
        p.fault(odd(r, 3));
        return p;
    }

    private static String shortRows(Random r) {
        StringBuilder text = new StringBuilder();
        for (int i = 10 + r.nextInt(5); i > 0; i--) text.append(r.nextBoolean() ? "rest day=1;" : "ring 1 when 1<1;");
        return text.toString();
    }

    private static String deepRow(Random r) {
        StringBuilder text = new StringBuilder("rest ");
        int nots = r.nextInt(10);
        for (int i = 0; i < nots; i++) text.append("not ");
        StringBuilder ends = new StringBuilder();
        for (int i = 7 + r.nextInt(3) - nots; i > 0; i--) {
            boolean minus = r.nextBoolean();
            text.append(minus ? "-" : "(");
            if (!minus) ends.append(")");
            if (r.nextInt(4) == 0) text.append("-1+");
        }
        return text.append("1").append(ends).append("=(1);").toString();
    }

    private static Pair bells(Random r) {
        Pair p = new Pair();
        p.branch(-1);
        p.dial(0, false, r.nextInt(720), 0);
        p.dial(0, true, r.nextInt(720), 0);
        int at = r.nextInt(6);
        for (int i = 0; i < 57 && at == 0; i++) p.minutes(10000);
        if (at == 0) p.minutes(5999 - r.nextInt(2000));
        if (at == 1) p.minutes(1 + r.nextInt(800));
        if (at > 1) for (int i = r.nextInt(5); i >= 0; i--) p.minutes(1 + r.nextInt(10000));
        for (int i = 0; i < 3; i++) {
            p.type(text(r, 1 + r.nextInt(4), 2));
            p.by(p.strip());
            if (r.nextInt(3) == 0) p.image();
            for (int k = 0; k < 25 && !p.unlike; k++) askBells(p, r);
            if (r.nextInt(3) == 0) p.back();
            p.by(odd(r, 4) - 1);
            for (int k = 0; k < 5 && !p.unlike; k++) askBells(p, r);
        }
        return p;
    }

    private static void askBells(Pair p, Random r) {
        int bell = odd(r, 4);
        int other = odd(r, 4);
        switch (r.nextInt(16)) {
            case 0: p.next(bell, odd(r, 576000)); break;
            case 1: p.together(bell, other, odd(r, 576000)); break;
            case 2: if (r.nextInt(4) == 0) p.often(bell, odd(r, 400)); break;
            case 3: case 4: p.late(bell, r.nextInt(4) - 1); break;
            case 5: case 6: p.lesson(bell, other); break;
            case 7: p.set(r.nextInt(2), r.nextInt(720)); break;
            case 8: p.minutes(1 + r.nextInt(200)); break;
            case 9: p.next(bell, 575999 - r.nextInt(3000)); break;
            default: p.rings(bell, odd(r, 576000));
        }
    }
}
