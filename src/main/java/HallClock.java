import java.util.Arrays;

public final class HallClock {
    public static final int NONE = -1;

    private static final int BRANCHES = 8;
    private static final int DIALS = 16;
    private static final int HALF_DAY = 720;
    private static final int DAY = 1440;
    private static final int DAYS = 400;
    private static final int MINUTES = 576000;
    private static final int PULSES = 10;
    private static final int READS = 30;
    private static final int BELLS = 4;
    private static final int STRIPS = 4;
    private static final int TEXT = 300;
    private static final int SEARCH = 28800;

    private final Hall now = new Hall();
    private final Hall saved = new Hall();
    private final Explainer explainer = new Explainer(now.watch);
    private final Righter righter = new Righter(now);
    private final Tape tape = new Tape();
    private final StripReader reader = new StripReader(tape);
    private final Strip[] strips = new Strip[STRIPS];

    public HallClock() {
        for (int i = 0; i < STRIPS; i++) {
            strips[i] = new Strip();
        }
    }

    public int branch(int from) {
        boolean known = from == NONE || now.wires.has(from);
        if (!known || now.wires.size >= BRANCHES) {
            return NONE;
        }
        return now.wires.grow(from);
    }

    public int dial(int branch, boolean turned, int hands, int last) {
        if (!now.wires.has(branch) || !isHands(hands) || !isSign(last) || now.dials >= DIALS) {
            return NONE;
        }
        righter.forget();
        int number = now.dials;
        now.dial[number].begin(branch, turned, hands, last);
        now.dials = number + 1;
        return number;
    }

    public boolean worn(int dial, int skip, int bounce) {
        if (!now.hasDial(dial) || !within(skip, 0, 999) || !within(bounce, 0, 999)) {
            return false;
        }
        righter.forget();
        now.dial[dial].skip = skip;
        now.dial[dial].bounce = bounce;
        return true;
    }

    public boolean hang(int dial, int branch) {
        if (!now.hasDial(dial) || !now.wires.has(branch)) {
            return false;
        }
        righter.forget();
        now.dial[dial].branch = branch;
        return true;
    }

    public boolean set(int dial, int hands) {
        if (!now.hasDial(dial) || !isHands(hands)) {
            return false;
        }
        righter.forget();
        now.dial[dial].hands = hands;
        return true;
    }

    public boolean cut(int branch, boolean is) {
        if (!now.wires.has(branch) || now.wires.broken[branch] == is) {
            return false;
        }
        righter.forget();
        now.wires.broken[branch] = is;
        return true;
    }

    public boolean hold(int dial, boolean is) {
        if (!now.hasDial(dial) || now.dial[dial].held == is) {
            return false;
        }
        now.dial[dial].held = is;
        return true;
    }

    public boolean stop(boolean is) {
        if (now.stopped == is) {
            return false;
        }
        now.stopped = is;
        return true;
    }

    public int minutes(int n) {
        if (!within(n, 1, 10000) || now.minute + n >= MINUTES) {
            return NONE;
        }
        righter.forget();
        now.minute += n;
        if (!now.stopped) {
            now.sendPulses(n);
        }
        return now.minute;
    }

    public int quick(int n) {
        if (!within(n, 1, 1440)) {
            return NONE;
        }
        righter.forget();
        now.sendPulses(n);
        return now.sign;
    }

    public int storm(int branch, int sign) {
        if (!now.wires.has(branch) || !isSign(sign)) {
            return NONE;
        }
        righter.forget();
        return now.strike(branch, sign);
    }

    public int at(int dial, int what) {
        if (!now.hasDial(dial)) {
            return NONE;
        }
        Dial it = now.dial[dial];
        switch (what) {
            case 0: return it.hands;
            case 1: return it.last;
            case 2: return it.count;
            case 3: return now.behind(it);
            case 4: return it.branch;
            case 5: return it.held ? 1 : 0;
            case 6: return now.wires.carries(NONE, it.branch) ? 1 : 0;
            default: return NONE;
        }
    }

    public int wrong() {
        int sum = 0;
        for (int d = 0; d < now.dials; d++) {
            if (now.behind(now.dial[d]) != 0) {
                sum++;
            }
        }
        return sum;
    }

    public int watch(int n) {
        if (!within(n, 1, PULSES)) {
            return NONE;
        }
        now.beginWatch(n);
        explainer.forget();
        return now.watch.dials;
    }

    public int read(int dial, int pulse, int hands) {
        Watch watch = now.watch;
        boolean fits = watch.pulses > 0 && within(dial, 0, watch.dials - 1)
                && within(pulse, 0, watch.pulses) && isHands(hands);
        if (!fits || watch.reads >= READS) {
            return NONE;
        }
        watch.note(dial, pulse, hands, now.minute / DAY);
        return watch.reads;
    }

    public int fewest(int known) {
        return canExplain(known) ? explainer.answerFor(known)[Explainer.FEWEST] : NONE;
    }

    public int broken(int known, int branch, int pulse) {
        boolean fits = canExplain(known) && now.watch.wires.has(branch)
                && within(pulse, 1, now.watch.pulses);
        return fits ? Explainer.certainty(explainer.answerFor(known), branch, pulse) : NONE;
    }

    public int question(int known, int what) {
        if (!canExplain(known)) {
            return NONE;
        }
        int[] answer = explainer.answerFor(known);
        switch (what) {
            case 0: return answer[Explainer.ASK_DIAL];
            case 1: return answer[Explainer.ASK_PULSE];
            case 2: return answer[Explainer.ASK_UNLIKE];
            default: return NONE;
        }
    }

    public int rounds(int h, int round) {
        if (!within(h, 0, 15) || !within(round, NONE, 2)) {
            return NONE;
        }
        int[] plan = righter.planFor(h);
        if (round == NONE) {
            return plan[0];
        }
        return round < plan[0] ? plan[1 + round] : NONE;
    }

    public int feed(int a, int b, int c, int d, int e) {
        if (tape.size + 20 > TEXT) {
            return NONE;
        }
        tape.append(a);
        tape.append(b);
        tape.append(c);
        tape.append(d);
        tape.append(e);
        return tape.size;
    }

    public int end(int n) {
        if (!within(n, 0, tape.size)) {
            return NONE;
        }
        tape.size = n;
        return n;
    }

    public int strip() {
        int number = now.strips;
        if (number >= STRIPS) {
            return NONE;
        }
        boolean sound = reader.parse(strips[number]);
        tape.size = 0;
        if (!sound) {
            return NONE;
        }
        now.strips = number + 1;
        return number;
    }

    public int fault(int what) {
        if (!reader.hasRead) {
            return NONE;
        }
        switch (what) {
            case 0: return reader.fault;
            case 1: return reader.place;
            default: return NONE;
        }
    }

    public boolean by(int strip) {
        if (!within(strip, NONE, now.strips - 1)) {
            return false;
        }
        now.chosen = strip;
        return true;
    }

    public int rings(int bell, int minute) {
        if (!isBell(bell) || !isMinute(minute)) {
            return NONE;
        }
        return soundsAt(bell, minute) ? 1 : 0;
    }

    public int next(int bell, int from) {
        if (!isBell(bell) || !isMinute(from)) {
            return NONE;
        }
        return firstRing(bell, bell, from, SEARCH);
    }

    public int often(int bell, int day) {
        if (!isBell(bell) || !within(day, 0, DAYS - 1)) {
            return NONE;
        }
        int sum = 0;
        for (int i = 0; i < DAY; i++) {
            if (soundsAt(bell, day * DAY + i)) {
                sum++;
            }
        }
        return sum;
    }

    public int together(int one, int other, int from) {
        if (!isBell(one) || !isBell(other) || !isMinute(from)) {
            return NONE;
        }
        return firstRing(one, other, from, SEARCH);
    }

    public int late(int bell, int dial) {
        if (!isBell(bell) || (dial != NONE && !now.hasDial(dial))) {
            return NONE;
        }
        int minute = dial == NONE ? now.minute : minuteShown(now.dial[dial]);
        int ring = lastRing(bell, minute);
        return ring == NONE ? NONE : minute - ring;
    }

    public int lesson(int from, int to) {
        if (!isBell(from) || !isBell(to)) {
            return NONE;
        }
        int begin = lastRing(from, now.minute);
        if (begin == NONE) {
            return NONE;
        }
        int finish = firstRing(to, to, begin + 1, DAY);
        return finish == NONE ? NONE : finish - begin;
    }

    public int image() {
        saved.copyFrom(now);
        return now.minute;
    }

    public int back() {
        now.copyFrom(saved);
        righter.forget();
        explainer.forget();
        return now.minute;
    }

    public int about(int what) {
        switch (what) {
            case 0: return now.minute;
            case 1: return now.sign;
            case 2: return now.stopped ? 1 : 0;
            case 3: return now.wires.size;
            case 4: return now.dials;
            case 5: return now.strips;
            case 6: return now.chosen;
            case 7: return now.watch.reads;
            case 8: return now.watch.pulses;
            case 9: return tape.size;
            default: return aboutBranch(what);
        }
    }

    private int aboutBranch(int what) {
        if (!within(what, 20, 20 + BRANCHES - 1) || !now.wires.has(what - 20)) {
            return NONE;
        }
        return now.wires.broken[what - 20] ? 1 : 0;
    }

    private boolean canExplain(int known) {
        return now.watch.pulses > 0 && within(known, 0, DAYS - 1);
    }

    private boolean soundsAt(int bell, int minute) {
        return now.chosen >= 0 && now.chosen < STRIPS && strips[now.chosen].sounds(bell, minute);
    }

    private int firstRing(int one, int other, int from, int span) {
        if (now.chosen < 0 || now.chosen >= STRIPS) {
            return NONE;
        }
        // Behind a whole period without a ring there is none later either.
        int end = Math.min(from + Math.min(span, strips[now.chosen].period), MINUTES);
        for (int t = from; t < end; t++) {
            if (soundsAt(one, t) && soundsAt(other, t)) {
                return t;
            }
        }
        return NONE;
    }

    private int lastRing(int bell, int minute) {
        int end = Math.max(0, minute - DAY + 1);
        for (int t = minute; t >= end; t--) {
            if (soundsAt(bell, t)) {
                return t;
            }
        }
        return NONE;
    }

    /** The minute that someone takes it to be who goes by this dial. */
    private int minuteShown(Dial dial) {
        int ahead = now.minute - now.behind(dial);
        int behind = ahead + HALF_DAY;
        if (ahead < 0) {
            return behind;
        }
        if (behind >= MINUTES) {
            return ahead;
        }
        return now.minute - ahead <= behind - now.minute ? ahead : behind;
    }

    private static boolean within(int x, int least, int most) {
        return x >= least && x <= most;
    }

    private static boolean isHands(int hands) {
        return within(hands, 0, HALF_DAY - 1);
    }

    private static boolean isSign(int sign) {
        return within(sign, 0, 1);
    }

    private static boolean isBell(int bell) {
        return within(bell, 0, BELLS - 1);
    }

    private static boolean isMinute(int minute) {
        return within(minute, 0, MINUTES - 1);
    }

    /** One dial with its hands, its tongue and its wear. */
    private static final class Dial {
        int branch;
        boolean turned;
        int hands;
        int last;
        boolean held;
        int count;
        int skip;
        int bounce;

        void begin(int onBranch, boolean isTurned, int startHands, int startLast) {
            branch = onBranch;
            turned = isTurned;
            hands = startHands;
            last = startLast;
            held = false;
            count = 0;
            skip = 0;
            bounce = 0;
        }

        void copyFrom(Dial other) {
            branch = other.branch;
            turned = other.turned;
            hands = other.hands;
            last = other.last;
            held = other.held;
            count = other.count;
            skip = other.skip;
            bounce = other.bounce;
        }

        /** Takes n pulses with signs by turns: how many of them did something. */
        int take(int firstSign, int n) {
            if (held || n < 1) {
                return 0;
            }
            // Behind its first pulse a turned dial is always ready for the other sign.
            int acts = turned && last == firstSign ? n - 1 : n;
            hands = (hands + travel(acts)) % HALF_DAY;
            count += acts;
            last = firstSign ^ ((n - 1) & 1);
            return acts;
        }

        /** How far the hands go by the next so many pulses that do something. */
        int travel(int acts) {
            int end = count + acts;
            int skips = multiples(skip, count, end);
            int bounces = multiples(bounce, count, end) - multiples(skipAndBounce(), count, end);
            return acts - skips + bounces;
        }

        private int skipAndBounce() {
            int a = skip;
            int b = bounce;
            for (int i = 0; i < 40 && b != 0; i++) {
                int rest = a % b;
                a = b;
                b = rest;
            }
            return skip == 0 || bounce == 0 || a == 0 ? 0 : skip / a * bounce;
        }

        private static int multiples(int of, int above, int upTo) {
            return of == 0 ? 0 : upTo / of - above / of;
        }
    }

    /** The branches: which is behind which, and which are broken. */
    private static final class Wires {
        int size;
        final int[] ahead = new int[BRANCHES];
        final boolean[] broken = new boolean[BRANCHES];

        boolean has(int branch) {
            return branch >= 0 && branch < size;
        }

        int grow(int from) {
            if (size >= BRANCHES) {
                return NONE;
            }
            ahead[size] = from;
            broken[size] = false;
            size++;
            return size - 1;
        }

        void copyFrom(Wires other) {
            size = other.size;
            for (int b = 0; b < BRANCHES; b++) {
                ahead[b] = other.ahead[b];
                broken[b] = other.broken[b];
            }
        }

        /** Whether a pulse that begins at a branch (NONE: in the hall) comes to another one. */
        boolean carries(int start, int branch) {
            int b = branch;
            for (int i = 0; i < BRANCHES && has(b); i++) {
                if (broken[b]) {
                    return false;
                }
                if (b == start) {
                    return true;
                }
                b = ahead[b];
            }
            return start == NONE;
        }
    }

    /** All that an image keeps. */
    private static final class Hall {
        int minute;
        int sign;
        boolean stopped;
        int dials;
        int strips;
        int chosen = NONE;
        final Wires wires = new Wires();
        final Dial[] dial = new Dial[DIALS];
        final Watch watch = new Watch();

        Hall() {
            for (int d = 0; d < DIALS; d++) {
                dial[d] = new Dial();
            }
        }

        void copyFrom(Hall other) {
            minute = other.minute;
            sign = other.sign;
            stopped = other.stopped;
            dials = other.dials;
            strips = other.strips;
            chosen = other.chosen;
            wires.copyFrom(other.wires);
            for (int d = 0; d < DIALS; d++) {
                dial[d].copyFrom(other.dial[d]);
            }
            watch.copyFrom(other.watch);
        }

        boolean hasDial(int number) {
            return number >= 0 && number < dials;
        }

        int behind(Dial it) {
            return Math.floorMod(minute - it.hands, HALF_DAY);
        }

        void sendPulses(int n) {
            for (int d = 0; d < dials; d++) {
                if (wires.carries(NONE, dial[d].branch)) {
                    dial[d].take(sign, n);
                }
            }
            sign ^= n & 1;
        }

        int strike(int branch, int ofSign) {
            int sum = 0;
            for (int d = 0; d < dials; d++) {
                if (wires.carries(branch, dial[d].branch)) {
                    sum += dial[d].take(ofSign, 1);
                }
            }
            return sum;
        }

        void beginWatch(int n) {
            watch.pulses = n;
            watch.sign = sign;
            watch.dials = dials;
            watch.reads = 0;
            watch.wires.copyFrom(wires);
            for (int d = 0; d < dials; d++) {
                watch.dial[d].copyFrom(dial[d]);
            }
        }
    }

    /** The clock as it was when the watch was told, and what was read since. */
    private static final class Watch {
        int pulses;
        int sign;
        int dials;
        int reads;
        final Wires wires = new Wires();
        final Dial[] dial = new Dial[DIALS];
        final int[] readDial = new int[READS];
        final int[] readPulse = new int[READS];
        final int[] readHands = new int[READS];
        final int[] readDay = new int[READS];

        Watch() {
            for (int d = 0; d < DIALS; d++) {
                dial[d] = new Dial();
            }
        }

        void copyFrom(Watch other) {
            pulses = other.pulses;
            sign = other.sign;
            dials = other.dials;
            reads = other.reads;
            wires.copyFrom(other.wires);
            for (int d = 0; d < DIALS; d++) {
                dial[d].copyFrom(other.dial[d]);
            }
            System.arraycopy(other.readDial, 0, readDial, 0, READS);
            System.arraycopy(other.readPulse, 0, readPulse, 0, READS);
            System.arraycopy(other.readHands, 0, readHands, 0, READS);
            System.arraycopy(other.readDay, 0, readDay, 0, READS);
        }

        void note(int number, int pulse, int hands, int day) {
            if (reads < READS) {
                readDial[reads] = number;
                readPulse[reads] = pulse;
                readHands[reads] = hands;
                readDay[reads] = day;
                reads++;
            }
        }

        /** The clock never goes back while a watch lasts, so what is known on a day stands first. */
        int readsKnown(int day) {
            int sum = 0;
            for (int i = 0; i < reads; i++) {
                if (readDay[i] <= day) {
                    sum++;
                }
            }
            return sum;
        }

        int signOf(int pulse) {
            return sign ^ ((pulse - 1) & 1);
        }
    }

    /**
     * Weighs all sets of breaks of a watch. A mask has bit p - 1 set if pulse p does not come.
     * Dials are independent of one another once it is told which pulses come to them, so the
     * least misses and jumps are worked out for each mask once, and summed up over branches.
     */
    private static final class Explainer {
        static final int FEWEST = 0;
        static final int ASK_DIAL = 1;
        static final int ASK_PULSE = 2;
        static final int ASK_UNLIKE = 3;
        private static final int SOME = 4;
        private static final int EVERY = SOME + BRANCHES;
        private static final int ANSWER = EVERY + BRANCHES;
        private static final int UNKNOWN = -2;
        private static final int HOPELESS = 1000;
        private static final int WIDTH = PULSES + 1;

        private final Watch watch;
        private final int[][] answers = new int[READS + 1][ANSWER];
        private final int[][] cost = new int[BRANCHES][1 << PULSES];
        private final byte[][] seen = new byte[BRANCHES][1 << PULSES];
        private final int[][] table = new int[PULSES + 1][WIDTH * WIDTH];
        private final int[] need = new int[PULSES + 1];
        private final int[] base = new int[PULSES + 1];
        private final int[] shown = new int[PULSES + 1];
        private final int[] path = new int[BRANCHES];
        private final int[] spans = new int[PULSES * (PULSES + 1) / 2];
        private int spanCount;
        private int lastNeed;
        private int unbroken;
        private int best;
        private boolean marking;
        private int[] answer;

        Explainer(Watch ofWatch) {
            watch = ofWatch;
            answer = answers[0];
            forget();
        }

        void forget() {
            for (int i = 0; i <= READS; i++) {
                answers[i][FEWEST] = UNKNOWN;
            }
        }

        int[] answerFor(int known) {
            int reads = Math.min(watch.readsKnown(known), READS);
            answer = answers[reads];
            if (answer[FEWEST] == UNKNOWN) {
                explain(reads);
            }
            return answer;
        }

        static int certainty(int[] told, int branch, int pulse) {
            if (told[FEWEST] == NONE) {
                return NONE;
            }
            int bit = 1 << (pulse - 1);
            if ((told[EVERY + branch] & bit) != 0) {
                return 2;
            }
            return (told[SOME + branch] & bit) != 0 ? 1 : 0;
        }

        private void explain(int reads) {
            findPaths();
            findSpans();
            weighDials(reads);
            best = HOPELESS;
            marking = false;
            eachSet();
            Arrays.fill(answer, 0);
            answer[ASK_DIAL] = NONE;
            answer[ASK_PULSE] = NONE;
            answer[ASK_UNLIKE] = NONE;
            answer[FEWEST] = best >= HOPELESS ? NONE : best;
            if (best >= HOPELESS) {
                return;
            }
            for (int b = 0; b < BRANCHES; b++) {
                answer[EVERY + b] = (1 << PULSES) - 1;
                Arrays.fill(seen[b], (byte) 0);
            }
            marking = true;
            eachSet();
            findQuestion();
        }

        private void findPaths() {
            for (int b = 0; b < watch.wires.size; b++) {
                int ahead = watch.wires.ahead[b];
                path[b] = 1 << b | (ahead >= 0 && ahead < b ? path[ahead] : 0);
            }
        }

        private void findSpans() {
            spanCount = 0;
            for (int first = 0; first < watch.pulses; first++) {
                for (int end = first + 1; end <= watch.pulses && spanCount < spans.length; end++) {
                    spans[spanCount] = (1 << end) - (1 << first);
                    spanCount++;
                }
            }
        }

        /** Leaves in cost[b][mask] what all dials on b and behind it take, if mask is theirs. */
        private void weighDials(int reads) {
            for (int b = 0; b < BRANCHES; b++) {
                Arrays.fill(cost[b], 0);
            }
            for (int d = 0; d < watch.dials; d++) {
                Dial dial = watch.dial[d];
                findNeeds(d, reads);
                findBase(dial);
                if (lastNeed >= 0) {
                    Arrays.fill(table[0], HOPELESS);
                    table[0][0] = 0;
                    descend(dial, 0, 0, keepNeeded(0));
                }
            }
            unbroken = 0;
            for (int b = watch.wires.size - 1; b >= 0; b--) {
                int ahead = watch.wires.ahead[b];
                if (ahead == NONE) {
                    unbroken += cost[b][0];
                } else if (ahead >= 0 && ahead < b) {
                    addAll(cost[ahead], cost[b]);
                }
            }
        }

        private static void addAll(int[] to, int[] what) {
            for (int i = 0; i < to.length && i < what.length; i++) {
                to[i] += what[i];
            }
        }

        /** How far the hands of a dial must have gone behind each pulse: NONE, if nobody read it. */
        private void findNeeds(int number, int reads) {
            Arrays.fill(need, NONE);
            lastNeed = NONE;
            for (int i = 0; i < reads && i < READS; i++) {
                if (watch.readDial[i] != number) {
                    continue;
                }
                int pulse = watch.readPulse[i];
                int gone = Math.floorMod(watch.readHands[i] - watch.dial[number].hands, HALF_DAY);
                // Two unlike readings of one moment: no way leads to so much.
                need[pulse] = need[pulse] == NONE || need[pulse] == gone ? gone : HALF_DAY;
                lastNeed = Math.max(lastNeed, pulse);
            }
        }

        private void findBase(Dial dial) {
            for (int k = 0; k <= PULSES; k++) {
                base[k] = dial.travel(k);
            }
        }

        /**
         * Goes through all masks that two breaks can make, pulse by pulse. The table of a pulse has
         * the least mishaps by which the dial did something k times and jumped j times.
         */
        private void descend(Dial dial, int pulse, int mask, int least) {
            if (pulse >= lastNeed || pulse >= PULSES || least >= HOPELESS) {
                addBelow(cost[dial.branch], pulse, mask, least);
                return;
            }
            takePulse(dial, pulse + 1);
            descend(dial, pulse + 1, mask, keepNeeded(pulse + 1));
            int longer = mask | 1 << pulse;
            if (Integer.bitCount(longer & ~(longer << 1)) <= 2) {
                System.arraycopy(table[pulse], 0, table[pulse + 1], 0, WIDTH * WIDTH);
                descend(dial, pulse + 1, longer, keepNeeded(pulse + 1));
            }
        }

        private void addBelow(int[] row, int pulse, int mask, int least) {
            if (least == 0) {
                return;
            }
            int ends = 1 << Math.max(0, watch.pulses - pulse);
            for (int i = 0; i < ends; i++) {
                int whole = mask | i << pulse;
                if (whole < row.length) {
                    row[whole] += least;
                }
            }
        }

        private void takePulse(Dial dial, int pulse) {
            int[] from = table[pulse - 1];
            int[] to = table[pulse];
            Arrays.fill(to, HOPELESS);
            for (int k = 0; k < pulse; k++) {
                boolean idle = isIdle(dial, k, pulse);
                for (int j = 0; j <= k; j++) {
                    int here = k * WIDTH + j;
                    int mishaps = from[here];
                    if (mishaps >= HOPELESS) {
                        continue;
                    }
                    if (idle) {
                        to[here] = Math.min(to[here], mishaps);
                        continue;
                    }
                    int done = here + WIDTH;
                    to[here] = Math.min(to[here], mishaps + 1);
                    to[done] = Math.min(to[done], mishaps);
                    to[done + 1] = Math.min(to[done + 1], mishaps + 1);
                }
            }
        }

        /** A turned dial takes signs by turns, so how often it did something tells its last one. */
        private boolean isIdle(Dial dial, int acts, int pulse) {
            return dial.turned && (dial.last ^ (acts & 1)) == watch.signOf(pulse);
        }

        private int keepNeeded(int pulse) {
            int[] row = table[pulse];
            int least = HOPELESS;
            for (int k = 0; k <= pulse; k++) {
                for (int j = 0; j <= k; j++) {
                    int here = k * WIDTH + j;
                    if (need[pulse] != NONE && base[k] + j != need[pulse]) {
                        row[here] = HOPELESS;
                    }
                    least = Math.min(least, row[here]);
                }
            }
            return least;
        }

        private void eachSet() {
            consider(unbroken, NONE, 0, NONE, 0);
            int size = watch.wires.size;
            for (int b = 0; b < size; b++) {
                for (int i = 0; i < spanCount; i++) {
                    consider(with(b, spans[i]) + 1, b, spans[i], NONE, 0);
                }
            }
            // Two breaks are two mishaps already.
            if (best < 2) {
                return;
            }
            for (int b = 0; b < size; b++) {
                for (int i = 0; i < spanCount; i++) {
                    for (int other = b; other < size; other++) {
                        eachSecond(b, spans[i], other);
                    }
                }
            }
        }

        private int with(int branch, int span) {
            return unbroken - cost[branch][0] + cost[branch][span];
        }

        private void eachSecond(int b, int span, int other) {
            int one = with(b, span) + 2;
            int[] row = cost[other];
            boolean under = (path[other] >> b & 1) != 0;
            int reached = under ? span : 0;
            int less = row[reached];
            int near = span | span << 1 | span >> 1;
            for (int i = 0; i < spanCount; i++) {
                int second = spans[i];
                if (b == other && (second < span || (second & near) != 0)) {
                    continue;
                }
                consider(one - less + row[reached | second], b, span, other, second);
            }
        }

        private void consider(int mishaps, int b, int span, int other, int second) {
            if (!marking) {
                best = Math.min(best, mishaps);
            } else if (mishaps == best) {
                markSet(b, span, other, second);
            }
        }

        private void markSet(int one, int span, int other, int second) {
            int oneBit = one == NONE ? 0 : 1 << one;
            int otherBit = other == NONE ? 0 : 1 << other;
            for (int b = 0; b < watch.wires.size; b++) {
                int own = (b == one ? span : 0) | (b == other ? second : 0);
                answer[SOME + b] |= own;
                answer[EVERY + b] &= own;
                int byOne = (path[b] & oneBit) != 0 ? span : 0;
                int byOther = (path[b] & otherBit) != 0 ? second : 0;
                seen[b][byOne | byOther] = 1;
            }
        }

        private void findQuestion() {
            int most = 1;
            for (int d = 0; d < watch.dials; d++) {
                showUnlike(watch.dial[d]);
                for (int p = 0; p <= watch.pulses; p++) {
                    int unlike = Integer.bitCount(shown[p]);
                    if (unlike > most) {
                        most = unlike;
                        answer[ASK_DIAL] = d;
                        answer[ASK_PULSE] = p;
                        answer[ASK_UNLIKE] = unlike;
                    }
                }
            }
        }

        /** Sets in shown[p] a bit for each way that the hands would have gone behind pulse p. */
        private void showUnlike(Dial dial) {
            Arrays.fill(shown, 0);
            findBase(dial);
            byte[] masks = seen[dial.branch];
            int end = Math.min(1 << watch.pulses, masks.length);
            for (int mask = 0; mask < end; mask++) {
                if (masks[mask] == 0) {
                    continue;
                }
                int acts = 0;
                for (int p = 1; p <= watch.pulses; p++) {
                    boolean comes = (mask >> (p - 1) & 1) == 0;
                    if (comes && !isIdle(dial, acts, p)) {
                        acts++;
                    }
                    shown[p] |= 1 << base[acts];
                }
            }
        }
    }

    /** Looks for the fewest rounds of quick pulses that put all dials right. */
    private static final class Righter {
        private static final int ROUNDS = 3;
        private static final int LONGEST = 30;
        private static final int UNKNOWN = -2;
        private static final int WIDTH = 16;
        private static final int TOO_MANY = 99;

        private final Hall hall;
        private final int[][] plans = new int[WIDTH][1 + ROUNDS];
        private final int[][] right = new int[DIALS][ROUNDS * LONGEST + 1];
        private final Dial[] dial = new Dial[DIALS];
        private final int[] length = new int[ROUNDS];
        private final int[] forced = new int[ROUNDS];
        private final int[] choices = new int[DIALS];
        private final int[][] used = new int[2][WIDTH * WIDTH];
        private int dials;
        private int choosers;

        Righter(Hall ofHall) {
            hall = ofHall;
            forget();
        }

        void forget() {
            for (int h = 0; h < WIDTH; h++) {
                plans[h][0] = UNKNOWN;
            }
        }

        /** How many rounds (NONE: not by three), and how long each is. */
        int[] planFor(int h) {
            int[] plan = plans[h];
            if (plan[0] != UNKNOWN) {
                return plan;
            }
            gather();
            plan[0] = NONE;
            for (int rounds = 0; rounds <= ROUNDS && plan[0] == NONE; rounds++) {
                if (isInReach(rounds) && search(rounds, h)) {
                    plan[0] = rounds;
                    System.arraycopy(length, 0, plan, 1, ROUNDS);
                }
            }
            return plan;
        }

        /** Finds for each dial by which numbers of pulses that do something it comes right. */
        private void gather() {
            dials = 0;
            for (int d = 0; d < hall.dials && d < DIALS; d++) {
                Dial it = hall.dial[d];
                if (!hall.wires.carries(NONE, it.branch)) {
                    continue;
                }
                int behind = hall.behind(it);
                for (int k = 0; k <= ROUNDS * LONGEST; k++) {
                    right[dials][k] = it.travel(k) == behind ? 1 : 0;
                }
                dial[dials] = it;
                dials++;
            }
        }

        /** Spares the search where one dial is too far behind for so many rounds. */
        private boolean isInReach(int rounds) {
            for (int d = 0; d < dials; d++) {
                int ways = 0;
                for (int k = 0; k <= rounds * LONGEST; k++) {
                    ways += right[d][k];
                }
                if (ways == 0) {
                    return false;
                }
            }
            return true;
        }

        private boolean search(int rounds, int h) {
            int firstEnd = rounds > 0 ? LONGEST : 1;
            int secondEnd = rounds > 1 ? LONGEST : 1;
            int thirdEnd = rounds > 2 ? LONGEST : 1;
            for (int a = 1; a <= firstEnd; a++) {
                length[0] = a;
                for (int b = 1; b <= secondEnd; b++) {
                    length[1] = b;
                    for (int c = 1; c <= thirdEnd; c++) {
                        length[2] = c;
                        if (fits(rounds, h)) {
                            return true;
                        }
                    }
                }
            }
            return false;
        }

        private boolean fits(int rounds, int h) {
            Arrays.fill(forced, 0);
            choosers = 0;
            for (int d = 0; d < dials; d++) {
                int ways = leastHolds(d, rounds, h);
                if (ways == 0) {
                    return false;
                }
                if ((ways & 1) != 0) {
                    continue;
                }
                if (Integer.bitCount(ways) > 1) {
                    choices[choosers] = ways;
                    choosers++;
                } else if (!force(Integer.numberOfTrailingZeros(ways), h)) {
                    return false;
                }
            }
            return choosers == 0 || canChoose(h);
        }

        /**
         * A bit for each set of rounds in which a dial can be held to come right; none that holds
         * it in more rounds than another one, as that only takes more hands.
         */
        private int leastHolds(int d, int rounds, int h) {
            int ways = 0;
            int end = h == 0 ? 1 : 1 << rounds;
            for (int holds = 0; holds < end; holds++) {
                if (!hasSmaller(ways, holds) && comesRight(d, rounds, holds)) {
                    ways |= 1 << holds;
                }
            }
            return ways;
        }

        private static boolean hasSmaller(int ways, int holds) {
            if (ways == 0) {
                return false;
            }
            for (int less = 0; less < holds; less++) {
                if ((ways >> less & 1) != 0 && (less & ~holds) == 0) {
                    return true;
                }
            }
            return false;
        }

        private boolean comesRight(int d, int rounds, int holds) {
            boolean turned = dial[d].turned;
            int last = dial[d].last;
            int sign = hall.sign;
            int acts = 0;
            for (int r = 0; r < rounds; r++) {
                if ((holds >> r & 1) == 0) {
                    acts += turned && last == sign ? length[r] - 1 : length[r];
                    last = sign ^ ((length[r] - 1) & 1);
                }
                sign ^= length[r] & 1;
            }
            return right[d][acts] != 0;
        }

        private boolean force(int holds, int h) {
            for (int r = 0; r < ROUNDS; r++) {
                forced[r] += holds >> r & 1;
                if (forced[r] > h) {
                    return false;
                }
            }
            return true;
        }

        /** used[..][x * WIDTH + y]: the fewest held in the third round with x and y in the others. */
        private boolean canChoose(int h) {
            int[] from = used[0];
            int[] to = used[1];
            Arrays.fill(from, TOO_MANY);
            from[forced[0] * WIDTH + forced[1]] = forced[2];
            for (int i = 0; i < choosers; i++) {
                Arrays.fill(to, TOO_MANY);
                if (!chooseOne(from, to, choices[i], h)) {
                    return false;
                }
                int[] spare = from;
                from = to;
                to = spare;
            }
            return true;
        }

        private static boolean chooseOne(int[] from, int[] to, int ways, int h) {
            boolean can = false;
            for (int x = 0; x <= h; x++) {
                for (int y = 0; y <= h; y++) {
                    int z = from[x * WIDTH + y];
                    for (int holds = 0; holds < 8 && z <= h; holds++) {
                        int nextX = x + (holds & 1);
                        int nextY = y + (holds >> 1 & 1);
                        int nextZ = z + (holds >> 2 & 1);
                        boolean is = (ways >> holds & 1) != 0;
                        if (is && nextX <= h && nextY <= h && nextZ <= h) {
                            int here = nextX * WIDTH + nextY;
                            to[here] = Math.min(to[here], nextZ);
                            can = true;
                        }
                    }
                }
            }
            return can;
        }
    }

    /** The bytes that wait to become a strip. */
    private static final class Tape {
        int size;
        final int[] bytes = new int[TEXT];

        void append(int four) {
            for (int shift = 24; shift >= 0 && size < TEXT; shift -= 8) {
                bytes[size] = four >> shift & 255;
                size++;
            }
        }
    }

    /** Kinds of tokens; a node of a strip has the kind of the token that made it. */
    private static final class Kind {
        static final int END = 0;
        static final int BAD = 1;
        static final int NUMBER = 2;
        static final int RING = 3;
        static final int REST = 4;
        static final int WHEN = 5;
        static final int OPEN = 6;
        static final int CLOSE = 7;
        static final int SEMICOLON = 8;
        static final int OR = 9;
        static final int AND = 10;
        static final int NOT = 11;
        static final int MINUTE = 12;
        static final int HOUR = 13;
        static final int CLOCK = 14;
        static final int WEEKDAY = 15;
        static final int DATE = 16;
        static final int LESS = 17;
        static final int AT_MOST = 18;
        static final int MORE = 19;
        static final int AT_LEAST = 20;
        static final int LIKE = 21;
        static final int UNLIKE = 22;
        static final int PLUS = 23;
        static final int MINUS = 24;
        static final int TIMES = 25;
        static final int OVER = 26;
        static final int LEAVES = 27;
        static final int NEGATED = 28;
    }

    /** A strip as nodes, each behind those that it works on. */
    private static final class Strip {
        static final int ROWS = 12;
        private static final int LIMIT = 1000000;
        private static final int LEVELS = 4;

        private int size;
        private int rows;
        private final int[] kind = new int[TEXT];
        private final int[] left = new int[TEXT];
        private final int[] right = new int[TEXT];
        private final int[] level = new int[TEXT];
        private final int[] order = new int[TEXT];
        private final int[] firstOf = new int[LEVELS];
        private final int[] worth = new int[TEXT];
        private final int[] rowBell = new int[ROWS];
        private final int[] rowRoot = new int[ROWS];
        private int shown = NONE;
        int period = 1;

        void clear() {
            size = 0;
            rows = 0;
            shown = NONE;
            period = 1;
        }

        int addLeaf(int ofKind, int number) {
            if (size >= TEXT) {
                return NONE;
            }
            kind[size] = ofKind;
            left[size] = number;
            right[size] = NONE;
            level[size] = levelOf(ofKind);
            period = Math.max(period, periodOf(ofKind));
            size++;
            return size - 1;
        }

        int addNode(int ofKind, int one, int other) {
            if (size >= TEXT || one < 0 || one >= size || other < 0 || other >= size) {
                return NONE;
            }
            kind[size] = ofKind;
            left[size] = one;
            right[size] = other;
            level[size] = Math.max(level[one], level[other]);
            size++;
            return size - 1;
        }

        void addRow(int bell, int root) {
            if (rows < ROWS && root >= 0 && root < size) {
                rowBell[rows] = bell;
                rowRoot[rows] = root;
                rows++;
            }
        }

        /** A node is as quick as the quickest word in it: 3 minutes, 2 hours, 1 days, 0 none. */
        private static int levelOf(int ofKind) {
            switch (ofKind) {
                case Kind.MINUTE:
                case Kind.CLOCK: return 3;
                case Kind.HOUR: return 2;
                case Kind.WEEKDAY:
                case Kind.DATE: return 1;
                default: return 0;
            }
        }

        private static int periodOf(int ofKind) {
            switch (ofKind) {
                case Kind.MINUTE: return 60;
                case Kind.HOUR:
                case Kind.CLOCK: return DAY;
                case Kind.WEEKDAY: return 7 * DAY;
                case Kind.DATE: return MINUTES;
                default: return 1;
            }
        }

        /** Puts slow nodes first, so that a step to the next minute works out the quick ones alone. */
        void settle() {
            int filled = 0;
            for (int quickness = 0; quickness < LEVELS; quickness++) {
                firstOf[quickness] = filled;
                for (int i = 0; i < size; i++) {
                    if (level[i] == quickness) {
                        order[filled] = i;
                        filled++;
                    }
                }
            }
        }

        boolean sounds(int bell, int minute) {
            show(minute);
            boolean rung = false;
            for (int i = 0; i < rows; i++) {
                boolean so = worth[rowRoot[i]] != 0;
                if (so && rowBell[i] == NONE) {
                    return false;
                }
                rung = rung || (so && rowBell[i] == bell);
            }
            return rung;
        }

        private void show(int minute) {
            if (minute == shown) {
                return;
            }
            int from = 3;
            if (shown == NONE) {
                from = 0;
            } else if (minute / DAY != shown / DAY) {
                from = 1;
            } else if (minute / 60 != shown / 60) {
                from = 2;
            }
            for (int i = firstOf[from]; i < size; i++) {
                worth[order[i]] = work(order[i], minute);
            }
            shown = minute;
        }

        private int work(int node, int minute) {
            switch (kind[node]) {
                case Kind.NUMBER: return left[node];
                case Kind.MINUTE: return minute % 60;
                case Kind.HOUR: return minute % DAY / 60;
                case Kind.CLOCK: return minute % DAY;
                case Kind.WEEKDAY: return minute / DAY % 7;
                case Kind.DATE: return minute / DAY;
                default: return join(kind[node], worth[left[node]], worth[right[node]]);
            }
        }

        private static int join(int ofKind, int a, int b) {
            switch (ofKind) {
                case Kind.PLUS: return limited((long) a + b);
                case Kind.MINUS: return limited((long) a - b);
                case Kind.TIMES: return limited((long) a * b);
                case Kind.OVER: return b == 0 ? 0 : a / b;
                case Kind.LEAVES: return b == 0 ? 0 : a % b;
                case Kind.NEGATED: return -a;
                default: return isSo(ofKind, a, b) ? 1 : 0;
            }
        }

        private static int limited(long x) {
            return (int) Math.max(-LIMIT, Math.min(LIMIT, x));
        }

        private static boolean isSo(int ofKind, int a, int b) {
            switch (ofKind) {
                case Kind.LESS: return a < b;
                case Kind.AT_MOST: return a <= b;
                case Kind.MORE: return a > b;
                case Kind.AT_LEAST: return a >= b;
                case Kind.LIKE: return a == b;
                case Kind.UNLIKE: return a != b;
                case Kind.AND: return a != 0 && b != 0;
                case Kind.OR: return a != 0 || b != 0;
                case Kind.NOT: return a == 0;
                default: return false;
            }
        }
    }

    /** A tape cut into tokens, with the end as the last one. */
    private static final class Tokens {
        private static final int ABOVE_ALL = 10000;

        final int[] kind = new int[TEXT + 1];
        final int[] start = new int[TEXT + 1];
        final int[] number = new int[TEXT + 1];
        private int size;
        private final Tape tape;
        private final int[] text;
        private int length;
        private int position;

        Tokens(Tape ofTape) {
            tape = ofTape;
            text = ofTape.bytes;
        }

        void split() {
            length = Math.min(tape.size, TEXT);
            position = 0;
            size = 0;
            for (int i = 0; i < TEXT && skipBlanks(); i++) {
                start[size] = position;
                number[size] = 0;
                kind[size] = takeToken();
                size++;
            }
            start[size] = length;
            number[size] = 0;
            kind[size] = Kind.END;
        }

        private boolean skipBlanks() {
            while (position < length && (text[position] == 32 || text[position] == 10)) {
                position++;
            }
            return position < length;
        }

        private int takeToken() {
            int first = text[position];
            if (isLetter(first)) {
                return takeWord();
            }
            if (isDigit(first)) {
                return takeNumber();
            }
            position++;
            boolean equal = position < length && text[position] == '=';
            if (equal && (first == '<' || first == '>')) {
                position++;
                return first == '<' ? Kind.AT_MOST : Kind.AT_LEAST;
            }
            return signKind(first);
        }

        private int takeNumber() {
            int value = 0;
            while (position < length && isDigit(text[position])) {
                // Held there, so that a long row of digits can't wrap around.
                value = Math.min(ABOVE_ALL, value * 10 + text[position] - '0');
                position++;
            }
            number[size] = value;
            return Kind.NUMBER;
        }

        private static int signKind(int sign) {
            switch (sign) {
                case '<': return Kind.LESS;
                case '>': return Kind.MORE;
                case '=': return Kind.LIKE;
                case '#': return Kind.UNLIKE;
                case '+': return Kind.PLUS;
                case '-': return Kind.MINUS;
                case '*': return Kind.TIMES;
                case '/': return Kind.OVER;
                case '%': return Kind.LEAVES;
                case '(': return Kind.OPEN;
                case ')': return Kind.CLOSE;
                case ';': return Kind.SEMICOLON;
                default: return Kind.BAD;
            }
        }

        private int takeWord() {
            while (position < length && isLetter(text[position])) {
                position++;
            }
            if (isWord("ring")) return Kind.RING;
            if (isWord("rest")) return Kind.REST;
            if (isWord("when")) return Kind.WHEN;
            if (isWord("or")) return Kind.OR;
            if (isWord("and")) return Kind.AND;
            if (isWord("not")) return Kind.NOT;
            if (isWord("minute")) return Kind.MINUTE;
            if (isWord("hour")) return Kind.HOUR;
            if (isWord("clock")) return Kind.CLOCK;
            if (isWord("day")) return Kind.WEEKDAY;
            if (isWord("date")) return Kind.DATE;
            return Kind.BAD;
        }

        private boolean isWord(String word) {
            int first = start[size];
            if (word.length() != position - first) {
                return false;
            }
            for (int i = 0; i < word.length(); i++) {
                if (word.charAt(i) != text[first + i]) {
                    return false;
                }
            }
            return true;
        }

        private static boolean isLetter(int sign) {
            return (sign >= 'a' && sign <= 'z') || (sign >= 'A' && sign <= 'Z');
        }

        private static boolean isDigit(int sign) {
            return sign >= '0' && sign <= '9';
        }
    }

    /** Makes a strip of tokens, up to their first fault. */
    private static final class StripReader {
        private static final int OUT_OF_PLACE = 1;
        private static final int WRONG_NUMBER = 2;
        private static final int TOO_DEEP = 3;
        private static final int TOO_MANY_ROWS = 4;
        private static final int DEEPEST = 8;
        private static final int HIGHEST = 9999;

        boolean hasRead;
        int fault;
        int place = NONE;
        private final Tokens tokens;
        private int token;
        private int kind;
        private Strip out;

        StripReader(Tape tape) {
            tokens = new Tokens(tape);
        }

        boolean parse(Strip into) {
            hasRead = true;
            fault = 0;
            place = NONE;
            tokens.split();
            token = 0;
            kind = tokens.kind[0];
            out = into;
            out.clear();
            for (int row = 0; row <= Strip.ROWS && fault == 0 && kind != Kind.END; row++) {
                if (kind != Kind.RING && kind != Kind.REST) {
                    spoil(OUT_OF_PLACE);
                } else if (row == Strip.ROWS) {
                    spoil(TOO_MANY_ROWS);
                } else {
                    parseRow();
                }
            }
            out.settle();
            return fault == 0;
        }

        private int spoil(int ofKind) {
            if (fault == 0) {
                fault = ofKind;
                place = tokens.start[token];
            }
            return NONE;
        }

        private void advance() {
            if (token < TEXT && kind != Kind.END) {
                token++;
                kind = tokens.kind[token];
            }
        }

        private void parseRow() {
            int bell = kind == Kind.RING ? parseBell() : NONE;
            if (fault != 0) {
                return;
            }
            advance();
            int root = parseEither();
            if (fault != 0) {
                return;
            }
            if (kind != Kind.SEMICOLON) {
                spoil(OUT_OF_PLACE);
                return;
            }
            out.addRow(bell, root);
            advance();
        }

        /** Stops at the word when, as a row of the other kind does at the word rest. */
        private int parseBell() {
            advance();
            if (kind != Kind.NUMBER) {
                return spoil(OUT_OF_PLACE);
            }
            int bell = tokens.number[token];
            if (bell >= BELLS) {
                return spoil(WRONG_NUMBER);
            }
            advance();
            return kind == Kind.WHEN ? bell : spoil(OUT_OF_PLACE);
        }

        private int parseEither() {
            int either = NONE;
            int both = parseAsk(0);
            for (int i = 0; i < TEXT && fault == 0 && (kind == Kind.AND || kind == Kind.OR); i++) {
                if (kind == Kind.AND) {
                    advance();
                    both = join(Kind.AND, both, parseAsk(0));
                } else {
                    either = either == NONE ? both : join(Kind.OR, either, both);
                    advance();
                    both = parseAsk(0);
                }
            }
            return either == NONE ? both : join(Kind.OR, either, both);
        }

        private int parseAsk(int open) {
            if (kind == Kind.NOT) {
                if (open >= DEEPEST) {
                    return spoil(TOO_DEEP);
                }
                advance();
                int inner = parseAsk(open + 1);
                return join(Kind.NOT, inner, inner);
            }
            int one = parseSum(open);
            if (fault != 0) {
                return NONE;
            }
            int how = kind;
            if (how < Kind.LESS || how > Kind.UNLIKE) {
                return spoil(OUT_OF_PLACE);
            }
            advance();
            return join(how, one, parseSum(open));
        }

        private int parseSum(int open) {
            int node = parseProduct(open);
            for (int i = 0; i < TEXT && fault == 0 && (kind == Kind.PLUS || kind == Kind.MINUS); i++) {
                int how = kind;
                advance();
                node = join(how, node, parseProduct(open));
            }
            return node;
        }

        private int parseProduct(int open) {
            int node = parseOne(open);
            for (int i = 0; i < TEXT && fault == 0 && isProductSign(); i++) {
                int how = kind;
                advance();
                node = join(how, node, parseOne(open));
            }
            return node;
        }

        private boolean isProductSign() {
            return kind == Kind.TIMES || kind == Kind.OVER || kind == Kind.LEAVES;
        }

        private int parseOne(int open) {
            boolean isNumber = kind == Kind.NUMBER;
            if (isNumber && tokens.number[token] > HIGHEST) {
                return spoil(WRONG_NUMBER);
            }
            if (isNumber || (kind >= Kind.MINUTE && kind <= Kind.DATE)) {
                int leaf = out.addLeaf(kind, tokens.number[token]);
                advance();
                return leaf;
            }
            if (kind != Kind.OPEN && kind != Kind.MINUS) {
                return spoil(OUT_OF_PLACE);
            }
            if (open >= DEEPEST) {
                return spoil(TOO_DEEP);
            }
            if (kind == Kind.OPEN) {
                return parseInner(open + 1);
            }
            advance();
            int inner = parseOne(open + 1);
            return join(Kind.NEGATED, inner, inner);
        }

        private int parseInner(int open) {
            advance();
            int inner = parseSum(open);
            if (fault != 0) {
                return NONE;
            }
            if (kind != Kind.CLOSE) {
                return spoil(OUT_OF_PLACE);
            }
            advance();
            return inner;
        }

        private int join(int how, int one, int other) {
            return fault != 0 ? NONE : out.addNode(how, one, other);
        }
    }
}
