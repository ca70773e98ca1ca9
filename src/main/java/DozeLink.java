/**
 * A link that dozes. What each call promises stands in the document, DOC.md; words in capitals are its terms.
 * Every row is made when the object is made and used again, so that no call makes an object.
 */
public final class DozeLink {
    public static final int UNKNOWN = -1, OUTSIDE = -2, STATE = -3, FULL = -4, NONE = -9;

    private static final int AWAKE = 0, GOING = 1, ASLEEP = 2, WAKING = 3;
    private static final int MOST_HELD = 9, MOST_SIGNS = 80, MOST_ACTS = 14, MOST_SEEN = 6;
    /** How many signs of a TEXT stand ahead of its EVENTS. */
    private static final int HEAD = 9;
    /** The most TICKS that are looked ahead, and the latest time of THE CLOCK that can be SEEN. */
    private static final int FAR = 99;
    private static final int MOST_PASSED = 20, MOST_DRAWN = 60, MOST_CHANCED = 6, MOST_ENERGY = 9999;
    private static final int LOST_PRICE = 20;
    /** A set of SAVERS, as bits, in which none is away. */
    private static final int ALL_SAVERS = 7;

    private final Text text;
    private final Script script;
    private final Doze now;
    /** What calls that change nothing try things out on. */
    private final Doze trial;
    private final Acts acts;
    private final Sights sights;
    private final Slot firstSlot;
    private final Slot secondSlot;
    private long chance;

    public DozeLink() {
        text = new Text();
        script = new Script();
        now = new Doze();
        trial = new Doze();
        acts = new Acts();
        sights = new Sights();
        firstSlot = new Slot();
        secondSlot = new Slot();
        chance = 0L;
    }

    // ---- the link

    public int write(int letter) {
        if (!isWithin(letter, 0, 255)) {
            return OUTSIDE;
        }
        return text.append(letter) ? text.size : FULL;
    }

    public int wipe() {
        int length = text.size;
        text.size = 0;
        return length;
    }

    public int fault() {
        return text.faultPlace();
    }

    public int link() {
        if (text.faultPlace() != NONE) {
            return STATE;
        }
        script.become(text);
        now.become(script.start);
        script.perform(now, 0);
        acts.size = 0;
        firstSlot.filled = false;
        secondSlot.filled = false;
        return now.clock;
    }

    public int ask(int what) {
        if (what == 10) {
            return ticksTillQuiet();
        }
        return isWithin(what, 0, 9) ? now.figure(what) : OUTSIDE;
    }

    public int end(int end, int what) {
        if (!isEnd(end)) {
            return UNKNOWN;
        }
        Side side = now.side(end);
        switch (what) {
            case 0:
                return side.own;
            case 1:
                return side.enough;
            case 2:
                return side.age;
            case 3:
                return side.heard;
            case 4:
                return side.holding;
            case 5:
                return side.isDue(now.clock) ? 1 : 0;
            case 6:
                return bestCount(end);
            default:
                return OUTSIDE;
        }
    }

    public int held(int end, int i) {
        return isEnd(end) ? now.side(end).letterAt(i) : UNKNOWN;
    }

    // ---- acts

    public int come(int end) {
        if (!isEnd(end)) {
            return UNKNOWN;
        }
        Side side = now.side(end);
        if (side.isFull()) {
            return FULL;
        }
        acts.add(now);
        now.receive(end, 0);
        return side.holding;
    }

    public int pass(int k) {
        if (!isWithin(k, 1, MOST_PASSED)) {
            return OUTSIDE;
        }
        acts.add(now);
        now.elapse(k);
        return now.clock;
    }

    public int tell(int end, int what, int v) {
        if (!isEnd(end)) {
            return UNKNOWN;
        }
        if (!isWithin(what, 0, 2) || !isFigure(v)) {
            return OUTSIDE;
        }
        if (what == 0 && now.side(end).isFull()) {
            return FULL;
        }
        acts.add(now);
        return now.retell(end, what, v);
    }

    public int undo() {
        return acts.takeBack(now) ? acts.size : STATE;
    }

    // ---- asked

    public int ahead(int k, int what) {
        if (!isWithin(k, 0, FAR) || !isWithin(what, 0, 9)) {
            return OUTSIDE;
        }
        trial.become(now);
        trial.elapse(k);
        return trial.figure(what);
    }

    public int play(int what) {
        if (!isWithin(what, 0, 5)) {
            return OUTSIDE;
        }
        if (what == 5) {
            return script.letters();
        }
        trial.become(script.start);
        script.perform(trial, 0);
        trial.settle();
        switch (what) {
            case 0:
                return trial.price();
            case 1:
                return trial.energy;
            case 2:
                return trial.delays;
            case 3:
                return trial.lost;
            default:
                return trial.clock;
        }
    }

    public int judge(int n, long row) {
        if (!isWithin(n, 1, 4)) {
            return OUTSIDE;
        }
        long unit = 1L;
        for (int i = 0; i < n; i++) {
            unit *= 1000L;
        }
        if (row < 0L || row >= unit) {
            return OUTSIDE;
        }
        trial.become(now);
        long rest = row;
        for (int place = 0; place < n && unit >= 1000L; place++) {
            unit /= 1000L;
            if (!trial.admits((int) (rest / unit))) {
                return place;
            }
            rest %= unit;
        }
        return NONE;
    }

    // ---- seen

    public int see(int c, int s) {
        if (!isWithin(c, 0, FAR) || !isWithin(s, AWAKE, WAKING)) {
            return OUTSIDE;
        }
        return sights.add(c, s) ? sights.size : FULL;
    }

    public int unsee() {
        int size = sights.size;
        sights.size = 0;
        return size;
    }

    public int which() {
        int counts = 0;
        for (int enough = 1; enough <= 9; enough++) {
            if (explainsAll(enough)) {
                counts |= 1 << enough;
            }
        }
        return counts;
    }

    // ---- shares, chances

    public int share(int saver, boolean upper) {
        if (!isWithin(saver, 0, 2)) {
            return UNKNOWN;
        }
        int bit = 1 << saver;
        int less = 0;
        for (int others = 0; others <= ALL_SAVERS; others++) {
            if ((others & bit) == 0) {
                int saved = energyOf(others, 0) - energyOf(others | bit, 0);
                less += ordersBehind(others) * saved;
            }
        }
        return fraction(less, 6, upper);
    }

    public int luck(int n, int v, int x, boolean upper) {
        if (!isWithin(n, 0, MOST_CHANCED) || !isWithin(v, 0, MOST_ENERGY) || !isWithin(x, 0, 10)) {
            return OUTSIDE;
        }
        int chanced = Math.min(n, script.letters());
        int likely = 0;
        int all = 0;
        for (int missing = 0; missing < 1 << chanced; missing++) {
            int weight = weightOf(missing, chanced, x);
            all += weight;
            if (weight > 0 && energyOf(ALL_SAVERS, missing) <= v) {
                likely += weight;
            }
        }
        return fraction(likely, all, upper);
    }

    public long seed(long v) {
        long before = chance;
        chance = v;
        return before;
    }

    public int drawn(int m) {
        if (!isWithin(m, 1, MOST_DRAWN)) {
            return OUTSIDE;
        }
        trial.become(now);
        for (int i = 0; i < m; i++) {
            chance = chance * 6364136223846793005L + 1442695040888963407L;
            int v = (int) (chance >>> 33);
            if (v / 2 % 4 == 0) {
                trial.receive(v % 2, 0);
            }
            trial.tick();
        }
        return trial.delays - now.delays;
    }

    // ---- places to keep in

    public int keep(int slot) {
        if (!isSlot(slot)) {
            return UNKNOWN;
        }
        Slot chosen = slotOf(slot);
        chosen.kept.become(now);
        chosen.filled = true;
        return now.clock;
    }

    public int again(int slot) {
        if (!isSlot(slot)) {
            return UNKNOWN;
        }
        Slot chosen = slotOf(slot);
        if (!chosen.filled) {
            return STATE;
        }
        now.become(chosen.kept);
        acts.size = 0;
        return now.clock;
    }

    public int count(int what) {
        switch (what) {
            case 0:
                return text.size;
            case 1:
                return now.sink;
            case 2:
                return now.refresh;
            case 3:
                return script.size;
            case 4:
                return acts.size;
            case 5:
                return sights.size;
            default:
                return OUTSIDE;
        }
    }

    private static boolean isWithin(int v, int least, int most) {
        return v >= least && v <= most;
    }

    private static boolean isFigure(int v) {
        return v >= 1 && v <= 9;
    }

    private static boolean isEnd(int end) {
        return end == 0 || end == 1;
    }

    private static boolean isSlot(int slot) {
        return slot == 0 || slot == 1;
    }

    private Slot slotOf(int slot) {
        return slot == 0 ? firstSlot : secondSlot;
    }

    private int ticksTillQuiet() {
        trial.become(now);
        for (int k = 0; k <= FAR; k++) {
            if (trial.isAtRest()) {
                return k;
            }
            trial.tick();
        }
        return NONE;
    }

    private int bestCount(int end) {
        int best = 1;
        int leastPrice = 0;
        for (int enough = 1; enough <= 9; enough++) {
            trial.become(script.start);
            trial.side(end).enough = enough;
            script.perform(trial, 0);
            trial.settle();
            int price = trial.price();
            if (enough == 1 || price < leastPrice) {
                best = enough;
                leastPrice = price;
            }
        }
        return best;
    }

    private boolean explainsAll(int enough) {
        for (int i = 0; i < sights.size; i++) {
            trial.become(script.start);
            trial.zero.enough = enough;
            script.performTill(trial, sights.timeAt(i));
            if (trial.phase != sights.phaseAt(i)) {
                return false;
            }
        }
        return true;
    }

    /** ENERGY of THE PLAY with these SAVERS alone and without the missing ones of its first LETTERS (both as bits). */
    private int energyOf(int savers, int missing) {
        trial.become(script.start);
        // An END that is DUE as soon as it HOLDS any is one whose COUNT is 1.
        if ((savers & 1) == 0) {
            trial.zero.enough = 1;
        }
        if ((savers & 2) == 0) {
            trial.one.enough = 1;
        }
        trial.mayGo = (savers & 4) != 0;
        script.perform(trial, missing);
        trial.settle();
        return trial.energy;
    }

    /** In how many of the six orders just these SAVERS (two at most) have come ahead of a certain other one. */
    private static int ordersBehind(int savers) {
        return Integer.bitCount(savers) == 1 ? 1 : 2;
    }

    /** How likely it is that of the first LETTERS just the missing ones do not come, with 10 for each LETTER as the whole. */
    private static int weightOf(int missing, int letters, int tenths) {
        int weight = 1;
        for (int i = 0; i < letters; i++) {
            weight *= (missing >> i & 1) == 1 ? tenths : 10 - tenths;
        }
        return weight;
    }

    private static int fraction(int above, int below, boolean upper) {
        int divisor = commonDivisor(Math.abs(above), below);
        if (divisor == 0) {
            return upper ? above : below;
        }
        return upper ? above / divisor : below / divisor;
    }

    private static int commonDivisor(int a, int b) {
        int greater = a;
        int smaller = b;
        // No two ints take as many steps as 64.
        for (int step = 0; step < 64 && smaller != 0; step++) {
            int rest = greater % smaller;
            greater = smaller;
            smaller = rest;
        }
        return greater;
    }

    /** One END with the LETTERS that it HOLDS; each is 10 times the time when it came and what it tells, 0 if it is plain. */
    private static final class Side {
        int own;
        int enough;
        int age;
        int heard;
        int holding;
        final int[] letters;

        Side() {
            own = 1;
            enough = 1;
            age = 1;
            heard = 1;
            holding = 0;
            letters = new int[MOST_HELD];
        }

        void become(Side other) {
            own = other.own;
            enough = other.enough;
            age = other.age;
            heard = other.heard;
            holding = other.holding;
            for (int i = 0; i < holding && i < letters.length && i < other.letters.length; i++) {
                letters[i] = other.letters[i];
            }
        }

        boolean isFull() {
            return holding >= MOST_HELD;
        }

        boolean append(int letter) {
            if (holding < 0 || holding >= letters.length) {
                return false;
            }
            letters[holding] = letter;
            holding++;
            return true;
        }

        int letterAt(int i) {
            return i >= 0 && i < holding && i < letters.length ? letters[i] : NONE;
        }

        void dropFirst() {
            for (int i = 1; i < holding && i < letters.length; i++) {
                letters[i - 1] = letters[i];
            }
            if (holding > 0) {
                holding--;
            }
        }

        boolean isDue(int clock) {
            if (holding >= enough) {
                return true;
            }
            for (int i = 0; i < holding && i < letters.length; i++) {
                int letter = letters[i];
                if (letter % 10 != 0 || clock - letter / 10 >= age) {
                    return true;
                }
            }
            return false;
        }
    }

    /** THE LINK between both ENDS, with THE CLOCK and all sums. LEFT and SLEPT are 0 while they do not count. */
    private static final class Doze {
        final Side zero;
        final Side one;
        /** False only where SAVER 2 is away. */
        boolean mayGo;
        int sink;
        int refresh;
        int phase;
        int left;
        int slept;
        int clock;
        int energy;
        int sent;
        int delays;
        int longest;
        int lost;

        Doze() {
            zero = new Side();
            one = new Side();
            mayGo = true;
            sink = 1;
            refresh = 2;
            phase = AWAKE;
            left = 0;
            slept = 0;
            clock = 0;
            energy = 0;
            sent = 0;
            delays = 0;
            longest = 0;
            lost = 0;
        }

        void become(Doze other) {
            zero.become(other.zero);
            one.become(other.one);
            mayGo = other.mayGo;
            sink = other.sink;
            refresh = other.refresh;
            phase = other.phase;
            left = other.left;
            slept = other.slept;
            clock = other.clock;
            energy = other.energy;
            sent = other.sent;
            delays = other.delays;
            longest = other.longest;
            lost = other.lost;
        }

        Side side(int end) {
            return end == 0 ? zero : one;
        }

        int figure(int what) {
            switch (what) {
                case 0:
                    return phase;
                case 1:
                    return left;
                case 2:
                    return slept;
                case 3:
                    return wakeTime();
                case 4:
                    return clock;
                case 5:
                    return energy;
                case 6:
                    return sent;
                case 7:
                    return delays;
                case 8:
                    return longest;
                default:
                    return lost;
            }
        }

        int wakeTime() {
            return Math.max(Math.max(zero.own, one.own), Math.max(zero.heard, one.heard));
        }

        int price() {
            return energy + delays + LOST_PRICE * lost;
        }

        boolean holdsNone() {
            return zero.holding == 0 && one.holding == 0;
        }

        /** Whether THE PLAY ends here; while THE LINK may be GOING this is QUIET. */
        boolean isAtRest() {
            return holdsNone() && (phase == ASLEEP || !mayGo);
        }

        boolean receive(int end, int tells) {
            return side(end).append(10 * clock + tells);
        }

        int retell(int end, int what, int v) {
            Side side = side(end);
            int before;
            if (what == 0) {
                before = side.own;
                side.own = v;
                receive(end, v);
            } else if (what == 1) {
                before = side.enough;
                side.enough = v;
            } else {
                before = side.age;
                side.age = v;
            }
            return before;
        }

        void elapse(int ticks) {
            for (int i = 0; i < ticks; i++) {
                tick();
            }
        }

        /** What THE PLAY does behind its EVENTS. */
        void settle() {
            for (int k = 0; k < FAR && !isAtRest(); k++) {
                tick();
            }
        }

        void tick() {
            energy += power();
            clock++;
            switch (phase) {
                case AWAKE:
                    send(zero, one);
                    send(one, zero);
                    if (mayGo && holdsNone()) {
                        phase = GOING;
                        left = sink;
                    }
                    break;
                case GOING:
                    left--;
                    if (left == 0) {
                        phase = ASLEEP;
                        slept = 0;
                    }
                    break;
                case ASLEEP:
                    slept++;
                    if (zero.isDue(clock) || one.isDue(clock)) {
                        phase = WAKING;
                        slept = 0;
                        left = wakeTime();
                    }
                    break;
                default:
                    left--;
                    if (left == 0) {
                        phase = AWAKE;
                    }
                    break;
            }
        }

        int power() {
            if (phase != ASLEEP) {
                return 9;
            }
            return refresh > 0 && (slept + 1) % refresh == 0 ? 5 : 1;
        }

        void send(Side from, Side to) {
            int letter = from.letterAt(0);
            if (letter == NONE) {
                return;
            }
            from.dropFirst();
            int delay = clock - letter / 10;
            sent++;
            delays += delay;
            longest = Math.max(longest, delay);
            if (letter % 10 != 0) {
                to.heard = letter % 10;
            }
        }

        /** Whether a told doing (three figures) can be, or is so; what it does is done. */
        boolean admits(int doing) {
            int second = doing / 10 % 10;
            int third = doing % 10;
            int both = doing % 100;
            switch (doing / 100) {
                case 1:
                    return isEnd(second) && third == 0 && receive(second, 0);
                case 2:
                    return admitsTicks(both);
                case 3:
                    return second == 0 && phase == third;
                case 4:
                    return isEnd(second) && side(second).holding == third;
                case 5:
                    return isEnd(second) && third == (side(second).isDue(clock) ? 1 : 0);
                case 6:
                    return sent == both;
                case 7:
                    return isEnd(second) && admitsCount(second, third);
                default:
                    return false;
            }
        }

        boolean admitsTicks(int ticks) {
            if (!isWithin(ticks, 1, MOST_PASSED)) {
                return false;
            }
            elapse(ticks);
            return true;
        }

        boolean admitsCount(int end, int v) {
            if (!isFigure(v)) {
                return false;
            }
            side(end).enough = v;
            return true;
        }
    }

    /** THE TEXT, sign by sign. */
    private static final class Text {
        final int[] signs;
        int size;

        Text() {
            signs = new int[MOST_SIGNS];
            size = 0;
        }

        boolean append(int sign) {
            if (size < 0 || size >= signs.length) {
                return false;
            }
            signs[size] = sign;
            size++;
            return true;
        }

        int signAt(int place) {
            return place >= 0 && place < size && place < signs.length ? signs[place] : 0;
        }

        /** The figure at a place where faultPlace() found one. */
        int figureAt(int place) {
            return signAt(place) - '0';
        }

        int faultPlace() {
            for (int place = 0; place < size; place++) {
                if (!mayStand(place, signAt(place))) {
                    return place;
                }
            }
            return size < HEAD ? size : NONE;
        }

        static boolean mayStand(int place, int sign) {
            if (place == 0) {
                return sign == 'L';
            }
            if (place == 2 && sign == '1') {
                return false;
            }
            return isFigure(sign - '0') || place >= HEAD && (sign == 'a' || sign == 'b');
        }
    }

    /** THE PLAY: THE LINK as it was told last, ahead of its EVENTS, and these. */
    private static final class Script {
        final Doze start;
        final int[] events;
        int size;

        Script() {
            start = new Doze();
            events = new int[MOST_SIGNS - HEAD];
            size = 0;
        }

        void become(Text text) {
            start.sink = text.figureAt(1);
            start.refresh = text.figureAt(2);
            readSide(start.zero, text, 3);
            readSide(start.one, text, 6);
            start.zero.heard = start.one.own;
            start.one.heard = start.zero.own;
            size = 0;
            for (int i = 0; i < events.length && HEAD + i < text.size; i++) {
                events[i] = text.signAt(HEAD + i);
                size++;
            }
        }

        static void readSide(Side side, Text text, int place) {
            side.own = text.figureAt(place);
            side.enough = text.figureAt(place + 1);
            side.age = text.figureAt(place + 2);
        }

        static boolean isLetter(int event) {
            return event == 'a' || event == 'b';
        }

        int letters() {
            int letters = 0;
            for (int i = 0; i < size && i < events.length; i++) {
                if (isLetter(events[i])) {
                    letters++;
                }
            }
            return letters;
        }

        /** All EVENTS, but for those of the first LETTERS that are missing (as bits). */
        void perform(Doze doze, int missing) {
            int letters = 0;
            for (int i = 0; i < size && i < events.length; i++) {
                int event = events[i];
                if (!isLetter(event)) {
                    doze.elapse(event - '0');
                    continue;
                }
                boolean comes = letters >= MOST_CHANCED || (missing >> letters & 1) == 0;
                letters++;
                if (comes) {
                    bring(doze, event);
                }
            }
        }

        static void bring(Doze doze, int event) {
            if (!doze.receive(event - 'a', 0)) {
                doze.lost++;
            }
        }

        /** EVENTS, then TICKS, up to the TICK that makes THE CLOCK this time. */
        void performTill(Doze doze, int time) {
            for (int i = 0; i < size && i < events.length && doze.clock < time; i++) {
                int event = events[i];
                if (isLetter(event)) {
                    bring(doze, event);
                } else {
                    doze.elapse(Math.min(event - '0', time - doze.clock));
                }
            }
            doze.elapse(time - doze.clock);
        }
    }

    /** The row of ACTS: how it was ahead of each. */
    private static final class Acts {
        final Doze[] befores;
        int size;

        Acts() {
            befores = new Doze[MOST_ACTS];
            for (int i = 0; i < befores.length; i++) {
                befores[i] = new Doze();
            }
            size = 0;
        }

        void add(Doze before) {
            if (size >= befores.length) {
                forgetFirst();
            }
            Doze place = beforeAt(size);
            if (place != null) {
                place.become(before);
                size++;
            }
        }

        void forgetFirst() {
            Doze first = beforeAt(0);
            int last = befores.length - 1;
            for (int i = 0; i < last; i++) {
                befores[i] = befores[i + 1];
            }
            // What the first one was kept in is used again for the one to come.
            if (last >= 0) {
                befores[last] = first;
                size = last;
            }
        }

        Doze beforeAt(int i) {
            return i >= 0 && i < befores.length ? befores[i] : null;
        }

        boolean takeBack(Doze doze) {
            Doze last = beforeAt(size - 1);
            if (last == null) {
                return false;
            }
            doze.become(last);
            size--;
            return true;
        }
    }

    /** What is SEEN: at which times of THE CLOCK THE LINK was what. */
    private static final class Sights {
        final int[] times;
        final int[] phases;
        int size;

        Sights() {
            times = new int[MOST_SEEN];
            phases = new int[MOST_SEEN];
            size = 0;
        }

        boolean add(int time, int phase) {
            if (size < 0 || size >= times.length || size >= phases.length) {
                return false;
            }
            times[size] = time;
            phases[size] = phase;
            size++;
            return true;
        }

        int timeAt(int i) {
            return i >= 0 && i < times.length ? times[i] : 0;
        }

        int phaseAt(int i) {
            return i >= 0 && i < phases.length ? phases[i] : NONE;
        }
    }

    /** A place to keep in. */
    private static final class Slot {
        final Doze kept;
        boolean filled;

        Slot() {
            kept = new Doze();
            filled = false;
        }
    }
}
