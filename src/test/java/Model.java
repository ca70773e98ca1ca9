import java.math.BigInteger;
import java.util.ArrayDeque;
import java.util.ArrayList;
import java.util.Deque;
import java.util.List;

/**
 * The document written a second time, in another way than the class: LETTERS as records, ACTS done over from their
 * start when one is undone, shares by all six orders, luck by a tree of cases.
 */
final class Model {
    private static final int UNKNOWN = -1, OUTSIDE = -2, STATE = -3, FULL = -4, NONE = -9;

    record Letter(int time, int tells) {
    }

    /** A world: all that TICKS and LETTERS change. */
    static final class World {
        int sink = 1, refresh = 2;
        int[] own = {1, 1}, count = {1, 1}, age = {1, 1}, heard = {1, 1};
        List<List<Letter>> held = List.of(new ArrayList<>(), new ArrayList<>());
        String link = "AWAKE";
        int left, slept, clock, energy, lost;
        List<Integer> delays = new ArrayList<>();
        boolean[] saver = {true, true, true};

        World copy() {
            World w = new World();
            w.sink = sink;
            w.refresh = refresh;
            w.own = own.clone();
            w.count = count.clone();
            w.age = age.clone();
            w.heard = heard.clone();
            w.held = List.of(new ArrayList<>(held.get(0)), new ArrayList<>(held.get(1)));
            w.link = link;
            w.left = left;
            w.slept = slept;
            w.clock = clock;
            w.energy = energy;
            w.lost = lost;
            w.delays = new ArrayList<>(delays);
            w.saver = saver.clone();
            return w;
        }

        int number() {
            return List.of("AWAKE", "GOING", "ASLEEP", "WAKING").indexOf(link);
        }

        int wakeTime() {
            int most = 0;
            for (int end = 0; end < 2; end++) {
                most = Math.max(most, Math.max(own[end], heard[end]));
            }
            return most;
        }

        boolean due(int end) {
            List<Letter> letters = held.get(end);
            if (!saver[end]) {
                return !letters.isEmpty();
            }
            return letters.size() >= count[end]
                    || letters.stream().anyMatch(l -> l.tells() != 0)
                    || letters.stream().anyMatch(l -> clock - l.time() >= age[end]);
        }

        boolean none() {
            return held.get(0).isEmpty() && held.get(1).isEmpty();
        }

        boolean come(int end, int tells) {
            if (held.get(end).size() == 9) {
                return false;
            }
            held.get(end).add(new Letter(clock, tells));
            return true;
        }

        void tick() {
            boolean asleep = link.equals("ASLEEP");
            energy += !asleep ? 9 : (slept + 1) % refresh == 0 ? 5 : 1;
            clock++;
            if (link.equals("AWAKE")) {
                for (int end = 0; end < 2; end++) {
                    if (!held.get(end).isEmpty()) {
                        Letter l = held.get(end).remove(0);
                        delays.add(clock - l.time());
                        if (l.tells() != 0) {
                            heard[1 - end] = l.tells();
                        }
                    }
                }
                if (saver[2] && none()) {
                    link = "GOING";
                    left = sink;
                }
            } else if (link.equals("GOING")) {
                if (--left == 0) {
                    link = "ASLEEP";
                    slept = 0;
                }
            } else if (asleep) {
                slept++;
                if (due(0) || due(1)) {
                    link = "WAKING";
                    left = wakeTime();
                }
            } else if (--left == 0) {
                link = "AWAKE";
            }
        }

        World after(int k) {
            World w = copy();
            for (int i = 0; i < k; i++) {
                w.tick();
            }
            return w;
        }

        int quiet() {
            for (int k = 0; k <= 99; k++) {
                World w = after(k);
                if (w.link.equals("ASLEEP") && w.none()) {
                    return k;
                }
            }
            return NONE;
        }

        int sumOfDelays() {
            return delays.stream().mapToInt(d -> d).sum();
        }

        int ask(int what) {
            return switch (what) {
                case 0 -> number();
                case 1 -> link.equals("GOING") || link.equals("WAKING") ? left : 0;
                case 2 -> link.equals("ASLEEP") ? slept : 0;
                case 3 -> wakeTime();
                case 4 -> clock;
                case 5 -> energy;
                case 6 -> delays.size();
                case 7 -> sumOfDelays();
                case 8 -> delays.stream().mapToInt(d -> d).max().orElse(0);
                case 9 -> lost;
                case 10 -> quiet();
                default -> OUTSIDE;
            };
        }
    }

    /** One ACT: which kind, and its numbers. */
    record Act(char kind, int end, int what, int v) {
        void applyTo(World w) {
            if (kind == 'c') {
                w.come(end, 0);
            } else if (kind == 'p') {
                for (int i = 0; i < v; i++) {
                    w.tick();
                }
            } else if (what == 0) {
                w.own[end] = v;
                w.come(end, v);
            } else {
                (what == 1 ? w.count : w.age)[end] = v;
            }
        }
    }

    record Sight(int c, int s) {
    }

    private final StringBuilder text = new StringBuilder();
    private String played = "L12111111";
    private World base = new World();
    private World now = new World();
    private final Deque<Act> acts = new ArrayDeque<>();
    private final List<Sight> seen = new ArrayList<>();
    private long seed = 0;
    private final World[] kept = new World[2];

    // ---- the link

    int write(int letter) {
        if (letter < 0 || letter > 255) {
            return OUTSIDE;
        }
        if (text.length() == 80) {
            return FULL;
        }
        return text.append((char) letter).length();
    }

    int wipe() {
        int n = text.length();
        text.setLength(0);
        return n;
    }

    /** A prefix can still be a LINK, if something behind it makes it one. */
    private static boolean canBecomeLink(String prefix) {
        String filler = "L12111111";
        String whole = prefix.length() < 9 ? prefix + filler.substring(prefix.length()) : prefix;
        return isLink(whole);
    }

    private static boolean isLink(String signs) {
        return signs.matches("L[1-9][2-9][1-9]{6}[ab1-9]*");
    }

    int fault() {
        for (int n = 1; n <= text.length(); n++) {
            if (!canBecomeLink(text.substring(0, n))) {
                return n - 1;
            }
        }
        return isLink(text.toString()) ? NONE : text.length();
    }

    private static World start(String signs) {
        World w = new World();
        w.sink = signs.charAt(1) - '0';
        w.refresh = signs.charAt(2) - '0';
        for (int end = 0; end < 2; end++) {
            w.own[end] = signs.charAt(3 + 3 * end) - '0';
            w.count[end] = signs.charAt(4 + 3 * end) - '0';
            w.age[end] = signs.charAt(5 + 3 * end) - '0';
            w.heard[1 - end] = w.own[end];
        }
        return w;
    }

    private static void happen(World w, char event) {
        if (event == 'a' || event == 'b') {
            if (!w.come(event == 'a' ? 0 : 1, 0)) {
                w.lost++;
            }
        } else {
            for (int i = '0'; i < event; i++) {
                w.tick();
            }
        }
    }

    int link() {
        if (!isLink(text.toString())) {
            return STATE;
        }
        played = text.toString();
        base = start(played);
        for (char event : played.substring(9).toCharArray()) {
            happen(base, event);
        }
        now = base.copy();
        acts.clear();
        kept[0] = null;
        kept[1] = null;
        return now.clock;
    }

    int ask(int what) {
        return now.ask(what);
    }

    int end(int end, int what) {
        if (end != 0 && end != 1) {
            return UNKNOWN;
        }
        return switch (what) {
            case 0 -> now.own[end];
            case 1 -> now.count[end];
            case 2 -> now.age[end];
            case 3 -> now.heard[end];
            case 4 -> now.held.get(end).size();
            case 5 -> now.due(end) ? 1 : 0;
            case 6 -> best(end);
            default -> OUTSIDE;
        };
    }

    private int best(int end) {
        int best = 9;
        for (int c = 9; c >= 1; c--) {
            if (price(playWithCount(end, c)) <= price(playWithCount(end, best))) {
                best = c;
            }
        }
        return best;
    }

    private World playWithCount(int end, int c) {
        World w = start(played);
        w.count[end] = c;
        return playOut(w, played.substring(9));
    }

    private static int price(World w) {
        return w.energy + w.sumOfDelays() + 20 * w.lost;
    }

    private static World playOut(World w, String events) {
        for (char event : events.toCharArray()) {
            happen(w, event);
        }
        int left = 99;
        while (left > 0 && !(w.none() && (!w.saver[2] || w.link.equals("ASLEEP")))) {
            w.tick();
            left--;
        }
        return w;
    }

    int held(int end, int i) {
        if (end != 0 && end != 1) {
            return UNKNOWN;
        }
        List<Letter> letters = now.held.get(end);
        return i < 0 || i >= letters.size() ? NONE : 10 * letters.get(i).time() + letters.get(i).tells();
    }

    // ---- acts

    private void act(Act act) {
        if (acts.size() == 14) {
            acts.removeFirst().applyTo(base);
        }
        acts.addLast(act);
        act.applyTo(now);
    }

    int come(int end) {
        if (end != 0 && end != 1) {
            return UNKNOWN;
        }
        if (now.held.get(end).size() == 9) {
            return FULL;
        }
        act(new Act('c', end, 0, 0));
        return now.held.get(end).size();
    }

    int pass(int k) {
        if (k < 1 || k > 20) {
            return OUTSIDE;
        }
        act(new Act('p', 0, 0, k));
        return now.clock;
    }

    int tell(int end, int what, int v) {
        if (end != 0 && end != 1) {
            return UNKNOWN;
        }
        if (what < 0 || what > 2 || v < 1 || v > 9) {
            return OUTSIDE;
        }
        if (what == 0 && now.held.get(end).size() == 9) {
            return FULL;
        }
        int was = end(end, what);
        act(new Act('t', end, what, v));
        return was;
    }

    int undo() {
        if (acts.isEmpty()) {
            return STATE;
        }
        acts.removeLast();
        now = base.copy();
        for (Act act : acts) {
            act.applyTo(now);
        }
        return acts.size();
    }

    // ---- asked

    int ahead(int k, int what) {
        if (k < 0 || k > 99 || what < 0 || what > 9) {
            return OUTSIDE;
        }
        return now.after(k).ask(what);
    }

    int play(int what) {
        if (what < 0 || what > 5) {
            return OUTSIDE;
        }
        World w = playOut(start(played), played.substring(9));
        return switch (what) {
            case 0 -> price(w);
            case 1 -> w.energy;
            case 2 -> w.sumOfDelays();
            case 3 -> w.lost;
            case 4 -> w.clock;
            default -> (int) played.chars().filter(c -> c == 'a' || c == 'b').count();
        };
    }

    int judge(int n, long row) {
        if (n < 1 || n > 4 || row < 0 || Long.toString(row).length() > 3 * n) {
            return OUTSIDE;
        }
        String figures = String.format("%0" + 3 * n + "d", row);
        World w = now.copy();
        for (int i = 0; i < n; i++) {
            if (!so(w, figures.charAt(3 * i) - '0', figures.charAt(3 * i + 1) - '0', figures.charAt(3 * i + 2) - '0')) {
                return i;
            }
        }
        return NONE;
    }

    private static boolean so(World w, int kind, int second, int third) {
        int two = 10 * second + third;
        boolean end = second < 2;
        if (kind == 1) {
            return end && third == 0 && w.come(second, 0);
        }
        if (kind == 2) {
            if (two < 1 || two > 20) {
                return false;
            }
            new Act('p', 0, 0, two).applyTo(w);
            return true;
        }
        if (kind == 3) {
            return second == 0 && w.number() == third;
        }
        if (kind == 4) {
            return end && w.held.get(second).size() == third;
        }
        if (kind == 5) {
            return end && (third == 1 && w.due(second) || third == 0 && !w.due(second));
        }
        if (kind == 6) {
            return w.delays.size() == two;
        }
        if (kind == 7 && end && third > 0) {
            w.count[second] = third;
            return true;
        }
        return false;
    }

    // ---- seen

    int see(int c, int s) {
        if (c < 0 || c > 99 || s < 0 || s > 3) {
            return OUTSIDE;
        }
        if (seen.size() == 6) {
            return FULL;
        }
        seen.add(new Sight(c, s));
        return seen.size();
    }

    int unsee() {
        int n = seen.size();
        seen.clear();
        return n;
    }

    int which() {
        int bits = 0;
        for (int c = 1; c <= 9; c++) {
            int[] links = linksByClock(c);
            if (seen.stream().allMatch(sight -> links[sight.c()] == sight.s())) {
                bits += 1 << c;
            }
        }
        return bits;
    }

    int linkAt(int c, int count) {
        return linksByClock(count)[c];
    }

    private int[] linksByClock(int count) {
        World w = start(played);
        w.count[0] = count;
        int[] links = new int[1000];
        links[0] = w.number();
        String events = played.substring(9) + "9".repeat(11);
        for (char event : events.toCharArray()) {
            for (int i = event >= 'a' ? event - 1 : '0'; i < event; i++) {
                happen(w, event >= 'a' ? event : '1');
                links[w.clock] = w.number();
            }
        }
        return links;
    }

    // ---- shares, chances

    int share(int saver, boolean upper) {
        if (saver < 0 || saver > 2) {
            return UNKNOWN;
        }
        int[][] orders = {{0, 1, 2}, {0, 2, 1}, {1, 0, 2}, {1, 2, 0}, {2, 0, 1}, {2, 1, 0}};
        int less = 0;
        for (int[] order : orders) {
            boolean[] come = new boolean[3];
            for (int comer : order) {
                int before = energy(come, played.substring(9));
                come[comer] = true;
                if (comer == saver) {
                    less += before - energy(come, played.substring(9));
                }
            }
        }
        return part(BigInteger.valueOf(less), BigInteger.valueOf(6), upper);
    }

    private int energy(boolean[] savers, String events) {
        World w = start(played);
        w.saver = savers.clone();
        return playOut(w, events).energy;
    }

    private static int part(BigInteger above, BigInteger below, boolean upper) {
        BigInteger common = above.gcd(below);
        return (upper ? above : below).divide(common).intValueExact();
    }

    int luck(int n, int v, int x, boolean upper) {
        if (n < 0 || n > 6 || v < 0 || v > 9999 || x < 0 || x > 10) {
            return OUTSIDE;
        }
        return part(likely("", played.substring(9), n, v, x), BigInteger.TEN.pow(n), upper);
    }

    /** In 10 to the n-th. */
    private BigInteger likely(String done, String rest, int n, int v, int x) {
        int i = 0;
        while (i < rest.length() && rest.charAt(i) < 'a') {
            i++;
        }
        if (n == 0 || i == rest.length()) {
            boolean so = energy(new boolean[] {true, true, true}, done + rest) <= v;
            return so ? BigInteger.TEN.pow(n) : BigInteger.ZERO;
        }
        String behind = rest.substring(i + 1);
        BigInteger without = likely(done + rest.substring(0, i), behind, n - 1, v, x);
        BigInteger with = likely(done + rest.substring(0, i + 1), behind, n - 1, v, x);
        return without.multiply(BigInteger.valueOf(x)).add(with.multiply(BigInteger.valueOf(10 - x)));
    }

    long seed(long v) {
        long was = seed;
        seed = v;
        return was;
    }

    int drawn(int m) {
        if (m < 1 || m > 60) {
            return OUTSIDE;
        }
        World w = now.copy();
        for (int i = 0; i < m; i++) {
            seed = BigInteger.valueOf(seed).multiply(BigInteger.valueOf(6364136223846793005L))
                    .add(BigInteger.valueOf(1442695040888963407L)).longValue();
            int v = (int) (seed >>> 33);
            if (v / 2 % 4 == 0) {
                w.come(v % 2, 0);
            }
            w.tick();
        }
        return w.sumOfDelays() - now.sumOfDelays();
    }

    // ---- places to keep in

    int keep(int slot) {
        if (slot != 0 && slot != 1) {
            return UNKNOWN;
        }
        kept[slot] = now.copy();
        return now.clock;
    }

    int again(int slot) {
        if (slot != 0 && slot != 1) {
            return UNKNOWN;
        }
        if (kept[slot] == null) {
            return STATE;
        }
        base = kept[slot].copy();
        now = base.copy();
        acts.clear();
        return now.clock;
    }

    int count(int what) {
        return switch (what) {
            case 0 -> text.length();
            case 1 -> now.sink;
            case 2 -> now.refresh;
            case 3 -> played.length() - 9;
            case 4 -> acts.size();
            case 5 -> seen.size();
            default -> OUTSIDE;
        };
    }
}
