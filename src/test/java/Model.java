import java.util.ArrayDeque;
import java.util.ArrayList;
import java.util.Deque;
import java.util.HashMap;
import java.util.HashSet;
import java.util.List;
import java.util.Map;
import java.util.Set;

/**
 * The document done the slow way: pulse by pulse, set by set, minute by minute. Written apart from
 * HallClock so that ModelTest can hold the two against each other.
 */
final class Model {
    static final class D {
        int branch, hands, last, count, skip, bounce;
        boolean turned, held;
        D copy() {
            D x = new D();
            x.branch = branch; x.hands = hands; x.last = last; x.count = count; x.skip = skip;
            x.bounce = bounce; x.turned = turned; x.held = held;
            return x;
        }
        boolean wouldAct(int sign) { return !held && !(turned && last == sign); }
        boolean pulse(int sign) {
            if (!wouldAct(sign)) return false;
            last = sign;
            count++;
            int by = 1;
            if (skip != 0 && count % skip == 0) by = 0;
            else if (bounce != 0 && count % bounce == 0) by = 2;
            hands = (hands + by) % 720;
            return true;
        }
    }

    static final class W {
        int n, sign;
        List<D> dials = new ArrayList<>();
        List<Integer> ahead = new ArrayList<>();
        List<int[]> reads = new ArrayList<>();
        W copy() {
            W x = new W();
            x.n = n; x.sign = sign;
            for (D d : dials) x.dials.add(d.copy());
            x.ahead.addAll(ahead);
            x.reads.addAll(reads);
            return x;
        }
    }

    static final class State {
        int m, sign, theStrip = -1;
        boolean stopped;
        List<Integer> ahead = new ArrayList<>();
        List<Boolean> broken = new ArrayList<>();
        List<D> dials = new ArrayList<>();
        List<String> strips = new ArrayList<>();
        W watch;
        State copy() {
            State x = new State();
            x.m = m; x.sign = sign; x.theStrip = theStrip; x.stopped = stopped;
            x.ahead.addAll(ahead); x.broken.addAll(broken); x.strips.addAll(strips);
            for (D d : dials) x.dials.add(d.copy());
            x.watch = watch == null ? null : watch.copy();
            return x;
        }
    }

    State s = new State();
    State saved = new State();
    StringBuilder tape = new StringBuilder();
    int faultKind = -1, faultPlace = -1;
    boolean anyRead;

    boolean isBranch(int b) { return b >= 0 && b < s.ahead.size(); }
    boolean isDial(int d) { return d >= 0 && d < s.dials.size(); }

    int branch(int from) {
        if (from != -1 && !isBranch(from) || s.ahead.size() == 8) return -1;
        s.ahead.add(from);
        s.broken.add(false);
        return s.ahead.size() - 1;
    }
    int dial(int branch, boolean turned, int hands, int last) {
        if (!isBranch(branch) || hands < 0 || hands > 719 || last < 0 || last > 1 || s.dials.size() == 16) return -1;
        D d = new D();
        d.branch = branch; d.turned = turned; d.hands = hands; d.last = last;
        s.dials.add(d);
        return s.dials.size() - 1;
    }
    boolean worn(int dial, int skip, int bounce) {
        if (!isDial(dial) || skip < 0 || skip > 999 || bounce < 0 || bounce > 999) return false;
        s.dials.get(dial).skip = skip;
        s.dials.get(dial).bounce = bounce;
        return true;
    }
    boolean hang(int dial, int branch) {
        if (!isDial(dial) || !isBranch(branch)) return false;
        s.dials.get(dial).branch = branch;
        return true;
    }
    boolean set(int dial, int hands) {
        if (!isDial(dial) || hands < 0 || hands > 719) return false;
        s.dials.get(dial).hands = hands;
        return true;
    }
    boolean cut(int branch, boolean is) {
        if (!isBranch(branch) || s.broken.get(branch) == is) return false;
        s.broken.set(branch, is);
        return true;
    }
    boolean hold(int dial, boolean is) {
        if (!isDial(dial) || s.dials.get(dial).held == is) return false;
        s.dials.get(dial).held = is;
        return true;
    }
    boolean stop(boolean is) {
        if (s.stopped == is) return false;
        s.stopped = is;
        return true;
    }
    boolean comes(int branch) {
        for (int b = branch; b != -1; b = s.ahead.get(b)) if (s.broken.get(b)) return false;
        return true;
    }
    void pulse() {
        for (D d : s.dials) if (comes(d.branch)) d.pulse(s.sign);
        s.sign = 1 - s.sign;
    }
    int minutes(int n) {
        if (n < 1 || n > 10000 || s.m + n > 575999) return -1;
        for (int i = 0; i < n; i++) {
            s.m++;
            if (!s.stopped) pulse();
        }
        return s.m;
    }
    int quick(int n) {
        if (n < 1 || n > 1440) return -1;
        for (int i = 0; i < n; i++) pulse();
        return s.sign;
    }
    boolean stormComes(int start, int branch) {
        List<Integer> way = new ArrayList<>();
        for (int b = branch; b != -1; b = s.ahead.get(b)) way.add(b);
        int end = way.indexOf(start);
        if (end < 0) return false;
        for (int i = 0; i <= end; i++) if (s.broken.get(way.get(i))) return false;
        return true;
    }
    int storm(int branch, int sign) {
        if (!isBranch(branch) || sign < 0 || sign > 1) return -1;
        int sum = 0;
        for (D d : s.dials) if (stormComes(branch, d.branch) && d.pulse(sign)) sum++;
        return sum;
    }
    int behind(D d) {
        int lack = 0;
        while ((d.hands + lack) % 720 != s.m % 720) lack++;
        return lack;
    }
    int at(int dial, int what) {
        if (!isDial(dial)) return -1;
        D d = s.dials.get(dial);
        int[] all = {d.hands, d.last, d.count, behind(d), d.branch, d.held ? 1 : 0, comes(d.branch) ? 1 : 0};
        return what < 0 || what > 6 ? -1 : all[what];
    }
    int wrong() {
        int sum = 0;
        for (D d : s.dials) if (behind(d) != 0) sum++;
        return sum;
    }

    int watch(int n) {
        if (n < 1 || n > 10) return -1;
        W w = new W();
        w.n = n;
        w.sign = s.sign;
        for (D d : s.dials) {
            D x = d.copy();
            x.held = false;
            w.dials.add(x);
        }
        w.ahead.addAll(s.ahead);
        s.watch = w;
        return w.dials.size();
    }
    int read(int dial, int pulse, int hands) {
        W w = s.watch;
        if (w == null || dial < 0 || dial >= w.dials.size() || pulse < 0 || pulse > w.n
                || hands < 0 || hands > 719 || w.reads.size() == 30) return -1;
        w.reads.add(new int[] {dial, pulse, hands, s.m / 1440});
        return w.reads.size();
    }

    /** A break: branch, first pulse, last pulse. */
    List<List<int[]>> breakSets(W w) {
        List<int[]> breaks = new ArrayList<>();
        for (int b = 0; b < w.ahead.size(); b++)
            for (int a = 1; a <= w.n; a++)
                for (int c = a; c <= w.n; c++) breaks.add(new int[] {b, a, c});
        List<List<int[]>> sets = new ArrayList<>();
        sets.add(List.of());
        for (int i = 0; i < breaks.size(); i++) {
            sets.add(List.of(breaks.get(i)));
            for (int j = i + 1; j < breaks.size(); j++) {
                int[] x = breaks.get(i), y = breaks.get(j);
                boolean apart = x[2] + 1 < y[1] || y[2] + 1 < x[1];
                if (x[0] != y[0] || apart) sets.add(List.of(x, y));
            }
        }
        return sets;
    }
    static boolean breaksAt(List<int[]> set, int branch, int pulse) {
        for (int[] x : set) if (x[0] == branch && x[1] <= pulse && pulse <= x[2]) return true;
        return false;
    }
    static boolean reaches(W w, List<int[]> set, int branch, int pulse) {
        for (int b = branch; b != -1; b = w.ahead.get(b)) if (breaksAt(set, b, pulse)) return false;
        return true;
    }
    static boolean agrees(W w, int dial, int pulse, int hands, int known) {
        for (int[] r : w.reads)
            if (r[3] <= known && r[0] == dial && r[1] == pulse && r[2] != hands) return false;
        return true;
    }
    static final int HOPELESS = 1000000;
    int leastFor(W w, List<int[]> set, int dial, D d, int pulse, int known) {
        if (!agrees(w, dial, pulse, d.hands, known)) return HOPELESS;
        if (pulse == w.n) return 0;
        int next = pulse + 1;
        int sign = (w.sign + pulse) % 2;
        if (!reaches(w, set, d.branch, next) || !d.wouldAct(sign))
            return leastFor(w, set, dial, d, next, known);
        D acted = d.copy();
        acted.pulse(sign);
        int best = leastFor(w, set, dial, acted, next, known);
        best = Math.min(best, 1 + leastFor(w, set, dial, d, next, known));
        D jumped = acted.copy();
        jumped.hands = (jumped.hands + 1) % 720;
        return Math.min(best, 1 + leastFor(w, set, dial, jumped, next, known));
    }
    int best;
    List<List<int[]>> explained(int known) {
        W w = s.watch;
        best = HOPELESS;
        // What a dial takes hangs on the pulses that come to it alone.
        Map<Integer, Integer> taken = new HashMap<>();
        List<List<int[]>> few = new ArrayList<>();
        for (List<int[]> set : breakSets(w)) {
            int sum = set.size();
            for (int d = 0; d < w.dials.size() && sum <= best; d++) {
                int dial = d;
                if (w.reads.stream().noneMatch(r -> r[0] == dial && r[3] <= known)) continue;
                int key = d;
                for (int p = 1; p <= w.n; p++) key = 2 * key + (reaches(w, set, w.dials.get(d).branch, p) ? 1 : 0);
                Integer least = taken.get(key);
                if (least == null) {
                    least = leastFor(w, set, d, w.dials.get(d), 0, known);
                    taken.put(key, least);
                }
                sum += least;
            }
            if (sum >= HOPELESS || sum > best) continue;
            if (sum < best) few.clear();
            best = sum;
            few.add(set);
        }
        return few;
    }
    boolean canAsk(int known) { return s.watch != null && known >= 0 && known <= 399; }
    int fewest(int known) {
        if (!canAsk(known)) return -1;
        return explained(known).isEmpty() ? -1 : best;
    }
    int broken(int known, int branch, int pulse) {
        if (!canAsk(known) || branch < 0 || branch >= s.watch.ahead.size() || pulse < 1 || pulse > s.watch.n) return -1;
        List<List<int[]>> few = explained(known);
        if (few.isEmpty()) return -1;
        int with = 0;
        for (List<int[]> set : few) if (breaksAt(set, branch, pulse)) with++;
        return with == few.size() ? 2 : with > 0 ? 1 : 0;
    }
    int question(int known, int what) {
        if (!canAsk(known) || what < 0 || what > 2) return -1;
        W w = s.watch;
        List<List<int[]>> few = explained(known);
        int[] answer = {-1, -1, 1};
        for (int d = 0; d < w.dials.size(); d++) {
            List<Set<Integer>> seen = new ArrayList<>();
            for (int p = 0; p <= w.n; p++) seen.add(new HashSet<>());
            for (List<int[]> set : few) {
                D x = w.dials.get(d).copy();
                seen.get(0).add(x.hands);
                for (int p = 1; p <= w.n; p++) {
                    if (reaches(w, set, x.branch, p)) x.pulse((w.sign + p - 1) % 2);
                    seen.get(p).add(x.hands);
                }
            }
            for (int p = 0; p <= w.n; p++)
                if (seen.get(p).size() > answer[2]) answer = new int[] {d, p, seen.get(p).size()};
        }
        return answer[0] < 0 ? -1 : answer[what];
    }

    boolean rightBy(D from, int[] lengths, int holds) {
        D d = from.copy();
        int sign = s.sign;
        for (int r = 0; r < lengths.length; r++) {
            d.held = (holds >> r & 1) != 0;
            for (int i = 0; i < lengths[r]; i++) {
                d.pulse(sign);
                sign = 1 - sign;
            }
        }
        return d.hands == s.m % 720;
    }
    boolean assign(List<List<Integer>> ways, int i, int[] used, int h) {
        if (i == ways.size()) return true;
        for (int holds : ways.get(i)) {
            boolean fits = true;
            for (int r = 0; r < 3; r++) {
                used[r] += holds >> r & 1;
                fits &= used[r] <= h;
            }
            if (fits && assign(ways, i + 1, used, h)) return true;
            for (int r = 0; r < 3; r++) used[r] -= holds >> r & 1;
        }
        return false;
    }
    boolean putsRight(int[] lengths, int h) {
        List<List<Integer>> ways = new ArrayList<>();
        for (D d : s.dials) {
            if (!comes(d.branch)) continue;
            List<Integer> way = new ArrayList<>();
            for (int holds = 0; holds < 1 << lengths.length; holds++)
                if (rightBy(d, lengths, holds)) way.add(holds);
            if (way.isEmpty()) return false;
            ways.add(way);
        }
        return assign(ways, 0, new int[3], h);
    }
    int[] plan(int h) {
        if (putsRight(new int[0], h)) return new int[0];
        for (int a = 1; a <= 30; a++) if (putsRight(new int[] {a}, h)) return new int[] {a};
        for (int a = 1; a <= 30; a++)
            for (int b = 1; b <= 30; b++) if (putsRight(new int[] {a, b}, h)) return new int[] {a, b};
        for (int a = 1; a <= 30; a++)
            for (int b = 1; b <= 30; b++)
                for (int c = 1; c <= 30; c++)
                    if (putsRight(new int[] {a, b, c}, h)) return new int[] {a, b, c};
        return null;
    }
    int rounds(int h, int round) {
        if (h < 0 || h > 15 || round < -1 || round > 2) return -1;
        int[] plan = plan(h);
        if (plan == null) return -1;
        return round == -1 ? plan.length : round < plan.length ? plan[round] : -1;
    }

    int feed(int a, int b, int c, int d, int e) {
        if (tape.length() + 20 > 300) return -1;
        for (int x : new int[] {a, b, c, d, e})
            for (int i = 3; i >= 0; i--) tape.append((char) (x >>> 8 * i & 255));
        return tape.length();
    }
    int end(int n) {
        if (n < 0 || n > tape.length()) return -1;
        tape.setLength(n);
        return n;
    }
    int strip() {
        if (s.strips.size() == 4) return -1;
        String text = tape.toString();
        tape.setLength(0);
        anyRead = true;
        faultKind = 0;
        faultPlace = -1;
        findFault(text);
        if (faultKind != 0) return -1;
        s.strips.add(text);
        return s.strips.size() - 1;
    }
    int fault(int what) {
        if (!anyRead || what < 0 || what > 1) return -1;
        return what == 0 ? faultKind : faultPlace;
    }

    static final class T {
        String text;
        int place;
        T(String text, int place) { this.text = text; this.place = place; }
        boolean in(String... some) {
            for (String x : some) if (x.equals(text)) return true;
            return false;
        }
        boolean isNumber() { return !text.isEmpty() && text.chars().allMatch(c -> c >= '0' && c <= '9'); }
        boolean isOver(int most) { return new java.math.BigInteger(text).compareTo(java.math.BigInteger.valueOf(most)) > 0; }
        boolean isWord() { return in("minute", "hour", "clock", "day", "date"); }
    }
    static List<T> tokens(String text) {
        List<T> all = new ArrayList<>();
        java.util.regex.Matcher m = java.util.regex.Pattern
                .compile("[a-zA-Z]+|[0-9]+|<=|>=|[^ \n]", java.util.regex.Pattern.DOTALL).matcher(text);
        while (m.find()) all.add(new T(m.group(), m.start()));
        return all;
    }

    /** The grammar as a machine of states with what is open on a pile. */
    void findFault(String text) {
        List<T> all = tokens(text);
        all.add(new T("", text.length()));
        String state = "row";
        int rows = 0;
        boolean compared = false;
        Deque<String> open = new ArrayDeque<>();
        for (T t : all) {
            int bad = 0;
            boolean starts = t.isNumber() || t.isWord() || t.in("(", "-");
            boolean opens = t.in("(", "-", "not");
            if (state.equals("row")) {
                if (t.in("")) return;
                if (!t.in("ring", "rest")) bad = 1;
                else if (++rows == 13) bad = 4;
                state = t.in("ring") ? "bell" : "ask";
                compared = false;
            } else if (state.equals("bell")) {
                bad = !t.isNumber() ? 1 : t.isOver(3) ? 2 : 0;
                state = "when";
            } else if (state.equals("when")) {
                bad = t.in("when") ? 0 : 1;
                state = "ask";
            } else if (state.equals("ask") || state.equals("one")) {
                if (!starts && !(state.equals("ask") && t.in("not"))) bad = 1;
                else if (t.isNumber() && t.isOver(9999)) bad = 2;
                else if (opens && open.size() == 8) bad = 3;
                else if (opens) {
                    open.push(t.text);
                    state = t.in("not") ? "ask" : "one";
                } else {
                    while (!open.isEmpty() && open.peek().equals("-")) open.pop();
                    state = "behind";
                }
            } else {
                boolean inside = open.contains("(");
                if (t.in("+", "-", "*", "/", "%")) state = "one";
                else if (inside && t.in(")")) {
                    open.pop();
                    while (!open.isEmpty() && open.peek().equals("-")) open.pop();
                } else if (!inside && !compared && t.in("<", "<=", ">", ">=", "=", "#")) {
                    compared = true;
                    state = "one";
                } else if (!inside && compared && t.in("and", "or", ";")) {
                    open.clear();
                    compared = false;
                    state = t.in(";") ? "row" : "ask";
                } else bad = 1;
            }
            if (bad != 0) {
                faultKind = bad;
                faultPlace = t.place;
                return;
            }
        }
    }

    static int rank(String op) {
        switch (op) {
            case "or": return 1;
            case "and": return 2;
            case "not": return 3;
            case "+": case "~-": return 5;
            case "*": case "/": case "%": return 6;
            case "neg": return 7;
            case "(": return 0;
            default: return 4;
        }
    }
    /** Rows of a strip as reversed Polish: the first entry is the bell, or "rest". */
    static List<List<String>> polish(String text) {
        List<List<String>> rows = new ArrayList<>();
        List<T> all = tokens(text);
        for (int i = 0; i < all.size(); i++) {
            List<String> out = new ArrayList<>();
            Deque<String> ops = new ArrayDeque<>();
            if (all.get(i).in("ring")) {
                out.add(new java.math.BigInteger(all.get(i + 1).text).toString());
                i += 3;
            } else {
                out.add("rest");
                i++;
            }
            boolean behindOne = false;
            for (; !all.get(i).in(";"); i++) {
                T t = all.get(i);
                if (t.isNumber() || t.isWord()) {
                    out.add(t.text);
                    behindOne = true;
                } else if (t.in("(")) {
                    ops.push("(");
                    behindOne = false;
                } else if (t.in(")")) {
                    while (!ops.peek().equals("(")) out.add(ops.pop());
                    ops.pop();
                    behindOne = true;
                } else if (t.in("not") || t.in("-") && !behindOne) {
                    ops.push(t.in("-") ? "neg" : "not");
                    behindOne = false;
                } else {
                    String op = t.in("-") ? "~-" : t.text;
                    while (!ops.isEmpty() && rank(ops.peek()) >= rank(op)) out.add(ops.pop());
                    ops.push(op);
                    behindOne = false;
                }
            }
            while (!ops.isEmpty()) out.add(ops.pop());
            rows.add(out);
        }
        return rows;
    }
    static long cut(long x) { return x > 1000000 ? 1000000 : x < -1000000 ? -1000000 : x; }
    static long value(List<String> row, int t) {
        long[] pile = new long[row.size()];
        int top = 0;
        for (int i = 1; i < row.size(); i++) {
            String op = row.get(i);
            if (Character.isDigit(op.charAt(0))) { pile[top++] = Long.parseLong(op); continue; }
            switch (op) {
                case "minute": pile[top++] = t % 60; continue;
                case "hour": pile[top++] = t / 60 % 24; continue;
                case "clock": pile[top++] = t % 1440; continue;
                case "day": pile[top++] = t / 1440 % 7; continue;
                case "date": pile[top++] = t / 1440; continue;
                case "neg": pile[top - 1] = -pile[top - 1]; continue;
                case "not": pile[top - 1] = 1 - pile[top - 1]; continue;
                default:
            }
            long b = pile[--top], a = pile[--top], x;
            switch (op) {
                case "+": x = cut(a + b); break;
                case "~-": x = cut(a - b); break;
                case "*": x = cut(a * b); break;
                case "/": x = b == 0 ? 0 : a / b; break;
                case "%": x = b == 0 ? 0 : a - a / b * b; break;
                case "<": x = a < b ? 1 : 0; break;
                case "<=": x = a <= b ? 1 : 0; break;
                case ">": x = a > b ? 1 : 0; break;
                case ">=": x = a >= b ? 1 : 0; break;
                case "=": x = a == b ? 1 : 0; break;
                case "#": x = a != b ? 1 : 0; break;
                case "and": x = a * b; break;
                case "or": x = Math.max(a, b); break;
                default: throw new IllegalStateException(op);
            }
            pile[top++] = x;
        }
        return pile[0];
    }

    String polishOf = null;
    List<List<String>> polished;
    boolean ringsAt(int bell, int t) {
        if (s.theStrip < 0) return false;
        String text = s.strips.get(s.theStrip);
        if (!text.equals(polishOf)) {
            polishOf = text;
            polished = polish(text);
        }
        boolean rung = false;
        for (List<String> row : polished) {
            if (!row.get(0).equals("rest") && Integer.parseInt(row.get(0)) != bell) continue;
            if (value(row, t) == 0) continue;
            if (row.get(0).equals("rest")) return false;
            rung = true;
        }
        return rung;
    }
    boolean by(int strip) {
        if (strip < -1 || strip >= s.strips.size()) return false;
        s.theStrip = strip;
        return true;
    }
    static boolean isBell(int b) { return b >= 0 && b < 4; }
    static boolean isMinute(int t) { return t >= 0 && t <= 575999; }
    int rings(int bell, int t) { return !isBell(bell) || !isMinute(t) ? -1 : ringsAt(bell, t) ? 1 : 0; }
    int next(int bell, int from) { return together(bell, bell, from); }
    int together(int one, int other, int from) {
        if (!isBell(one) || !isBell(other) || !isMinute(from)) return -1;
        for (int i = 0; i < 28800; i++)
            if (isMinute(from + i) && ringsAt(one, from + i) && ringsAt(other, from + i)) return from + i;
        return -1;
    }
    int often(int bell, int day) {
        if (!isBell(bell) || day < 0 || day > 399) return -1;
        int sum = 0;
        for (int t = 0; t < 576000; t++) if (t / 1440 == day && ringsAt(bell, t)) sum++;
        return sum;
    }
    int sinceRing(int bell, int t) {
        for (int i = 0; i <= 1439; i++) if (isMinute(t - i) && ringsAt(bell, t - i)) return i;
        return -1;
    }
    int late(int bell, int dial) {
        if (!isBell(bell) || dial != -1 && !isDial(dial)) return -1;
        if (dial == -1) return sinceRing(bell, s.m);
        for (int far = 0; far < 720; far++)
            for (int t : new int[] {s.m - far, s.m + far})
                if (isMinute(t) && t % 720 == s.dials.get(dial).hands) return sinceRing(bell, t);
        throw new IllegalStateException();
    }
    int lesson(int from, int to) {
        if (!isBell(from) || !isBell(to)) return -1;
        int since = sinceRing(from, s.m);
        if (since < 0) return -1;
        for (int i = 1; i <= 1440; i++)
            if (isMinute(s.m - since + i) && ringsAt(to, s.m - since + i)) return i;
        return -1;
    }
    int image() { saved = s.copy(); return s.m; }
    int back() { s = saved.copy(); return s.m; }
    int about(int what) {
        switch (what) {
            case 0: return s.m;
            case 1: return s.sign;
            case 2: return s.stopped ? 1 : 0;
            case 3: return s.ahead.size();
            case 4: return s.dials.size();
            case 5: return s.strips.size();
            case 6: return s.theStrip;
            case 7: return s.watch == null ? 0 : s.watch.reads.size();
            case 8: return s.watch == null ? 0 : s.watch.n;
            case 9: return tape.length();
            default: return isBranch(what - 20) ? s.broken.get(what - 20) ? 1 : 0 : -1;
        }
    }
}
