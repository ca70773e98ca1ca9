import java.util.Random;

/** Promise by promise: ordinary calls, edges and wrong inputs, with answers worked out by hand from the document. */
public final class PromisesTest extends Links {
    private static final int[] WRONG = {Integer.MIN_VALUE, -1, 2, 3, 10, 256, Integer.MAX_VALUE};

    /** Nine TICKS, a LETTER to END 0, four TICKS, another one; REFRESH 9, AGE 9 of END 0. */
    private static final String TWO_APART = "L191191119a4a";

    public static void main(String[] args) {
        newObject();
        write();
        wipe();
        fault();
        link();
        linkChangesNothingElse();
        linkLoses();
        askWhileItDozes();
        askSums();
        askWakeTime();
        askQuiet();
        end();
        endDue();
        endBest();
        held();
        come();
        pass();
        passLetters();
        tell();
        tellHeard();
        undo();
        undoForgets();
        undoBringsAllBack();
        ahead();
        play();
        judge();
        judgeOutside();
        judgeDoes();
        see();
        unsee();
        which();
        share();
        shareIsMean();
        luck();
        luckOfSome();
        seed();
        drawn();
        drawnIsComeAndPass();
        keep();
        again();
        count();
        Due.finish("PromisesTest");
    }

    // ---- promise 1

    private static void newObject() {
        DozeLink x = new DozeLink();
        int[] asked = {0, 0, 0, 1, 0, 0, 0, 0, 0, 0, 2};
        for (int what = 0; what < asked.length; what++) {
            is("new: ask " + what, x.ask(what), asked[what]);
        }
        int[] ends = {1, 1, 1, 1, 0, 0, 1};
        for (int what = 0; what < ends.length; what++) {
            is("new: end 0, " + what, x.end(0, what), ends[what]);
            is("new: end 1, " + what, x.end(1, what), ends[what]);
        }
        int[] counts = {0, 1, 2, 0, 0, 0};
        for (int what = 0; what < counts.length; what++) {
            is("new: count " + what, x.count(what), counts[what]);
        }
        is("new: held", x.held(0, 0), NONE);
        is("new: fault", x.fault(), 0);
        is("new: undo", x.undo(), STATE);
        is("new: again", x.again(0), STATE);
        is("new: which", x.which(), 1022);
        is("new: seed", x.seed(1), 0);
        is("new: unsee", x.unsee(), 0);
        is("new: link", x.link(), STATE);
    }

    // ---- promise 2

    private static void write() {
        DozeLink x = new DozeLink();
        is("write -1", x.write(-1), OUTSIDE);
        is("write 256", x.write(256), OUTSIDE);
        is("write least", x.write(Integer.MIN_VALUE), OUTSIDE);
        is("write 0", x.write(0), 1);
        is("write 255", x.write(255), 2);
        for (int n = 3; n <= 80; n++) {
            is("write " + n, x.write('a'), n);
        }
        is("write the 81st", x.write('a'), FULL);
        is("write a wrong 81st", x.write(256), OUTSIDE);
        is("full text", x.count(0), 80);
    }

    // ---- promise 3

    private static void wipe() {
        DozeLink x = told("L121111113a");
        is("wipe", x.wipe(), 11);
        is("wiped", x.wipe(), 0);
        is("wiped: count", x.count(0), 0);
        is("wiped: fault", x.fault(), 0);
        is("wiped: THE LINK stays", x.ask(4), 3);
        is("wiped: THE PLAY stays", x.count(3), 2);
        DozeLink full = new DozeLink();
        for (int i = 0; i < 85; i++) {
            full.write('L');
        }
        is("wipe full", full.wipe(), 80);
        is("write behind wipe", full.write('L'), 1);
        is("only what is behind wipe counts", full.fault(), 1);
    }

    // ---- promise 4

    private static void fault() {
        String head = "L12111111";
        for (int n = 0; n < 9; n++) {
            is("fault of the first " + n, written(head.substring(0, n)).fault(), n);
            String low = head.substring(0, n) + (n == 2 ? "1" : "0");
            is("fault of " + low, written(low).fault(), n);
            String letter = head.substring(0, n) + "a" + head.substring(n + 1) + "5";
            is("fault of " + letter, written(letter).fault(), n);
        }
        String[] good = {head, "L99999999", "L99999999ab1299ba", "L12111111" + "a".repeat(71), "L12111111" + "9".repeat(71)};
        for (String signs : good) {
            is("fault of " + signs, written(signs).fault(), NONE);
        }
        for (char sign : new char[] {'0', '/', ':', '`', 'c', 'A', 'L', ' ', 0, 255}) {
            is("fault of event " + (int) sign, written(head + "a1" + sign + "b").fault(), 11);
        }
        is("fault of l", written("l2111111").fault(), 0);
        is("fault of the first of two", written("L1x1y").fault(), 2);
        is("fault at the 80th", written(head + "1".repeat(70) + "x").fault(), 79);
        DozeLink x = written("L1211");
        is("fault", x.fault(), 5);
        is("fault changes nothing", x.count(0), 5);
    }

    // ---- promise 5

    private static void link() {
        DozeLink x = written("L25123987");
        is("link without EVENTS", x.link(), 0);
        int[] ends = {1, 2, 3, 9, 0, 0, 9, 8, 7, 1, 0, 0};
        for (int i = 0; i < ends.length; i++) {
            is("link: end " + i / 6 + ", " + i % 6, x.end(i / 6, i % 6), ends[i]);
        }
        is("link: SINK", x.count(1), 2);
        is("link: REFRESH", x.count(2), 5);
        is("link: WAKE TIME", x.ask(3), 9);
        is("link: EVENTS", x.count(3), 0);
        is("link with EVENTS", told("L12111111a9b91").ask(4), 19);
        is("longest link", written("L12111111" + "9".repeat(71)).link(), 639);
        DozeLink y = written("L12111111a3");
        is("link once", y.link(), 3);
        y.pass(20);
        is("link anew", y.link(), 3);
        is("link anew: ENERGY", y.ask(5), 19);
        is("link: the TEXT stays", y.count(0), 11);
        DozeLink z = written("L1211111");
        z.come(1);
        is("link of a FAULT", z.link(), STATE);
        is("link of a FAULT changes nothing", z.end(1, 4), 1);
        is("link of a FAULT leaves ACTS", z.count(4), 1);
    }

    private static void linkChangesNothingElse() {
        DozeLink x = new DozeLink();
        x.see(3, 1);
        x.seed(77);
        x.come(0);
        x.keep(0);
        x.keep(1);
        writeAll(x, "L12111111");
        x.link();
        is("link: ACTS are gone", x.count(4), 0);
        is("link: undo", x.undo(), STATE);
        is("link: kept is gone", x.again(0), STATE);
        is("link: kept is gone, 1", x.again(1), STATE);
        is("link: SEEN stays", x.count(5), 1);
        is("link: THE SEED stays", x.seed(0), 77);
        is("link: nothing held", x.end(0, 4), 0);
        writeAll(x, "L1");
        x.keep(0);
        x.link();
        is("no link: kept stays", x.again(0), 0);
    }

    private static void linkLoses() {
        DozeLink x = told("L12111111" + "a".repeat(11) + "b".repeat(9));
        is("LOST", x.ask(9), 2);
        is("not lost", x.end(0, 4), 9);
        is("not lost, 1", x.end(1, 4), 9);
        is("LOST: PLAY", x.play(3), 2);
        is("LOST ones come, too", x.play(5), 20);
        x = told("L12111111aaaaaaaaaa1a");
        is("LOST but for the one behind a TICK", x.ask(9), 1);
        is("held behind it", x.end(0, 4), 9);
        is("acts lose none", x.come(0), FULL);
        is("acts lose none: LOST", x.ask(9), 1);
    }

    // ---- promise 6

    /** SINK 2, REFRESH 3, wake time 2: each TICK of an empty link, then of one with a LETTER. */
    private static void askWhileItDozes() {
        DozeLink x = told("L23211111");
        int[][] rows = {{1, 2, 0, 9}, {1, 1, 0, 18}, {2, 0, 0, 27}, {2, 0, 1, 28}, {2, 0, 2, 29}, {2, 0, 3, 34}, {2, 0, 4, 35}};
        x = expect(x, rows, 1);
        is("a LETTER comes", x.come(1), 1);
        int[][] woken = {{3, 2, 0, 36}, {3, 1, 0, 45}, {0, 0, 0, 54}, {1, 2, 0, 63}, {1, 1, 0, 72}, {2, 0, 0, 81}, {2, 0, 1, 82}};
        x = expect(x, woken, 8);
        is("ask -1", x.ask(-1), OUTSIDE);
        is("ask 11", x.ask(11), OUTSIDE);
        is("ask least", x.ask(Integer.MIN_VALUE), OUTSIDE);
    }

    private static DozeLink expect(DozeLink x, int[][] rows, int clock) {
        int[] whats = {0, 1, 2, 5};
        for (int i = 0; i < rows.length; i++) {
            is("pass 1", x.pass(1), clock + i);
            for (int j = 0; j < whats.length; j++) {
                is("THE CLOCK " + (clock + i) + ": ask " + whats[j], x.ask(whats[j]), rows[i][j]);
            }
        }
        return x;
    }

    private static void askSums() {
        DozeLink x = told("L12111111aab");
        x.pass(1);
        is("SENT", x.ask(6), 2);
        is("DELAYS", x.ask(7), 2);
        is("LONGEST", x.ask(8), 1);
        is("still AWAKE", x.ask(0), 0);
        x.pass(1);
        is("SENT", x.ask(6), 3);
        is("DELAYS", x.ask(7), 4);
        is("LONGEST", x.ask(8), 2);
        is("GOING", x.ask(0), 1);
        x.pass(1);
        x.come(0);
        x.pass(1);
        is("WAKING", x.ask(0), 3);
        x.pass(2);
        is("SENT", x.ask(6), 4);
        is("DELAYS", x.ask(7), 7);
        is("LONGEST", x.ask(8), 3);
        is("THE CLOCK", x.ask(4), 6);
    }

    private static void askWakeTime() {
        is("OWN of END 0", told("L12711211").ask(3), 7);
        is("OWN of END 1", told("L12211711").ask(3), 7);
        DozeLink x = told("L12211311");
        x.tell(0, 0, 1);
        x.tell(1, 0, 1);
        is("WAKE TIME: what was HEARD stays", x.ask(3), 3);
        x.pass(1);
        is("WAKE TIME: HEARD anew", x.ask(3), 1);
        DozeLink y = told("L123111112");
        y.come(0);
        y.pass(1);
        is("WAKING", y.ask(0), 3);
        is("LEFT", y.ask(1), 3);
        y.tell(1, 0, 9);
        is("WAKE TIME", y.ask(3), 9);
        is("LEFT is as it was", y.ask(1), 3);
    }

    private static void askQuiet() {
        DozeLink x = told(TWO_APART);
        is("QUIET by a LETTER", x.ask(10), 4);
        is("QUIET changes nothing", x.ask(4), 13);
        x.pass(3);
        is("QUIET nearer", x.ask(10), 1);
        x.pass(1);
        is("QUIET", x.ask(10), 0);
        is("QUIET, AWAKE", told("L99999199aa").ask(10), 11);
        is("QUIET by AGE", told("L999991999aa").ask(10), 29);
        is("asleep but holding", told("L121991119a").ask(10), 12);
    }

    // ---- promise 7

    private static void end() {
        DozeLink x = told("L12345678");
        int[][] due = {{3, 4, 5, 6, 0, 0}, {6, 7, 8, 3, 0, 0}};
        for (int e = 0; e <= 1; e++) {
            for (int what = 0; what <= 5; what++) {
                is("end " + e + ", " + what, x.end(e, what), due[e][what]);
            }
            is("end -1", x.end(e, -1), OUTSIDE);
            is("end 7", x.end(e, 7), OUTSIDE);
        }
        for (int wrong : WRONG) {
            is("end " + wrong, x.end(wrong, 0), UNKNOWN);
            is("end " + wrong + ", 7", x.end(wrong, 7), UNKNOWN);
        }
    }

    private static void endDue() {
        DozeLink x = told("L123331112");
        is("none held", x.end(0, 5), 0);
        x.come(0);
        is("one of three", x.end(0, 5), 0);
        is("the other END", x.end(1, 5), 0);
        x.pass(2);
        is("two TICKS of three", x.end(0, 5), 0);
        is("ASLEEP still", x.ask(0), 2);
        x.pass(1);
        is("three TICKS", x.end(0, 5), 1);
        is("WAKING", x.ask(0), 3);
        DozeLink y = told("L129331112");
        y.come(0);
        y.come(0);
        is("two of three", y.end(0, 5), 0);
        y.come(0);
        is("three of three", y.end(0, 5), 1);
        y.tell(0, 1, 4);
        is("three of four", y.end(0, 5), 0);
        y.tell(0, 2, 9);
        y.tell(0, 0, 1);
        y.tell(0, 1, 9);
        is("one that tells", y.end(0, 5), 1);
        DozeLink z = told("L129991112");
        z.come(0);
        z.tell(0, 0, 5);
        is("one that tells behind a plain one", z.end(0, 5), 1);
        is("the other END is not", z.end(1, 5), 0);
    }

    private static void endBest() {
        DozeLink x = told(TWO_APART);
        is("BEST of END 0", x.end(0, 6), 2);
        is("BEST of END 1", x.end(1, 6), 1);
        is("BEST changes nothing", x.end(0, 1), 1);
        x.tell(0, 1, 9);
        x.pass(20);
        is("BEST is THE PLAY's", x.end(0, 6), 2);
        DozeLink y = told("L191111199b4b");
        is("BEST of the other END 0", y.end(0, 6), 1);
        is("BEST of the other END 1", y.end(1, 6), 2);
        y = told("L191111919b4b");
        is("BEST of like ones by AGE 1", y.end(1, 6), 1);
        is("BEST by all TICKS till QUIET", told("L191191119a4").end(0, 6), 1);
        // By COUNT 9 (PRICE 202, else 219) END 1's LETTER finds THE LINK AWAKE still.
        is("BEST is 9", told("L191191119aaaaaaaa1a91b").end(0, 6), 9);
        is("no COUNT of 10", told("L191121119aaaaaaaaa92b").end(0, 6), 1);
    }

    // ---- promise 8

    private static void held() {
        DozeLink x = told("L123991117");
        x.come(0);
        x.pass(3);
        x.tell(0, 0, 6);
        x.come(1);
        is("held 0, 0", x.held(0, 0), 70);
        is("held 0, 1", x.held(0, 1), 106);
        is("held 0, 2", x.held(0, 2), NONE);
        is("held 1, 0", x.held(1, 0), 100);
        is("held 1, 1", x.held(1, 1), NONE);
        is("held -1", x.held(0, -1), NONE);
        is("held least", x.held(0, Integer.MIN_VALUE), NONE);
        is("held greatest", x.held(0, Integer.MAX_VALUE), NONE);
        for (int wrong : WRONG) {
            is("held of " + wrong, x.held(wrong, 0), UNKNOWN);
            is("held of " + wrong + ", -1", x.held(wrong, -1), UNKNOWN);
        }
        DozeLink full = new DozeLink();
        for (int i = 0; i < 9; i++) {
            full.come(0);
        }
        is("held 8", full.held(0, 8), 0);
        is("held 9", full.held(0, 9), NONE);
    }

    // ---- promise 9

    private static void come() {
        DozeLink x = new DozeLink();
        for (int n = 1; n <= 9; n++) {
            is("come", x.come(1), n);
        }
        is("come to the tenth", x.come(1), FULL);
        is("refused: no ACT", x.count(4), 9);
        is("come to the other END", x.come(0), 1);
        for (int wrong : WRONG) {
            is("come to " + wrong, x.come(wrong), UNKNOWN);
        }
        is("come: ACTS", x.count(4), 10);
        is("come: THE CLOCK", x.ask(4), 0);
        is("the plain one", x.held(0, 0), 0);
    }

    // ---- promise 10

    private static void pass() {
        DozeLink x = new DozeLink();
        is("pass 0", x.pass(0), OUTSIDE);
        is("pass -1", x.pass(-1), OUTSIDE);
        is("pass 21", x.pass(21), OUTSIDE);
        is("pass most", x.pass(Integer.MAX_VALUE), OUTSIDE);
        is("refused: no ACT", x.count(4), 0);
        is("pass 1", x.pass(1), 1);
        is("pass 20", x.pass(20), 21);
        is("pass: ACTS", x.count(4), 2);
        is("pass: ENERGY", x.ask(5), 18 + 10 + 9 * 5);
    }

    private static void passLetters() {
        DozeLink x = told("L52111111");
        x.pass(1);
        is("GOING", x.ask(0), 1);
        x.come(0);
        x.pass(5);
        is("ASLEEP though DUE", x.ask(0), 2);
        x.pass(1);
        is("WAKING when it SLEPT a TICK", x.ask(0), 3);
        DozeLink y = told("L12199199");
        y.come(0);
        y.come(0);
        y.come(1);
        y.pass(1);
        is("AWAKE, whatever COUNT is", y.ask(6), 2);
        is("the first one of END 0", y.end(0, 4), 1);
        is("AWAKE while one is held", y.ask(0), 0);
        y.come(1);
        y.pass(1);
        is("both", y.ask(6), 4);
        is("GOING", y.ask(0), 1);
        DozeLink z = told("L121121112");
        z.come(0);
        z.tell(0, 0, 3);
        z.pass(1);
        is("WAKING", z.ask(1), 3);
        z.pass(4);
        is("the first one is SENT first", z.held(0, 0), 23);
        is("not HEARD yet", z.end(1, 3), 1);
    }

    // ---- promise 11

    private static void tell() {
        DozeLink x = told("L12345678");
        is("tell OWN", x.tell(0, 0, 9), 3);
        is("OWN", x.end(0, 0), 9);
        is("its LETTER", x.held(0, 0), 9);
        is("tell COUNT", x.tell(0, 1, 1), 4);
        is("COUNT", x.end(0, 1), 1);
        is("tell AGE", x.tell(0, 2, 9), 5);
        is("AGE", x.end(0, 2), 9);
        is("no LETTER by COUNT, AGE", x.end(0, 4), 1);
        is("tell OWN of END 1", x.tell(1, 0, 6), 6);
        is("tell COUNT of END 1", x.tell(1, 1, 2), 7);
        is("tell AGE of END 1", x.tell(1, 2, 3), 8);
        is("tell: ACTS", x.count(4), 6);
        for (int wrong : WRONG) {
            is("tell END " + wrong, x.tell(wrong, 3, 0), UNKNOWN);
        }
        is("tell -1", x.tell(0, -1, 1), OUTSIDE);
        is("tell 3", x.tell(0, 3, 1), OUTSIDE);
        is("tell 0", x.tell(0, 1, 0), OUTSIDE);
        is("tell 10", x.tell(0, 2, 10), OUTSIDE);
        for (int i = 1; i < 9; i++) {
            x.come(0);
        }
        is("tell OWN to nine", x.tell(0, 0, 1), FULL);
        is("tell a wrong OWN to nine", x.tell(0, 0, 10), OUTSIDE);
        is("OWN stays", x.end(0, 0), 9);
        is("tell COUNT to nine", x.tell(0, 1, 5), 1);
        is("tell AGE to nine", x.tell(0, 2, 5), 9);
    }

    private static void tellHeard() {
        DozeLink x = told("L12111111");
        x.tell(1, 0, 7);
        is("not HEARD", x.end(0, 3), 1);
        x.pass(1);
        is("HEARD", x.end(0, 3), 7);
        is("its own END HEARD nothing", x.end(1, 3), 1);
        x.tell(0, 0, 2);
        is("WAKE TIME", x.ask(3), 7);
        x.pass(2);
        is("WAKING by a LETTER that tells", x.ask(0), 3);
        is("LEFT by OWN and HEARD", x.ask(1), 7);
        x.pass(8);
        is("HEARD by END 1", x.end(1, 3), 2);
        x.tell(1, 0, 3);
        x.pass(20);
        is("HEARD anew, though less", x.end(0, 3), 3);
    }

    // ---- promise 12

    private static void undo() {
        DozeLink x = new DozeLink();
        is("undo none", x.undo(), STATE);
        x.come(0);
        x.pass(3);
        x.tell(1, 0, 5);
        x.tell(1, 1, 5);
        x.tell(1, 2, 5);
        is("refused", x.pass(0), OUTSIDE);
        is("undo AGE", x.undo(), 4);
        is("AGE", x.end(1, 2), 1);
        is("undo COUNT", x.undo(), 3);
        is("COUNT", x.end(1, 1), 1);
        is("undo OWN", x.undo(), 2);
        is("OWN", x.end(1, 0), 1);
        is("its LETTER", x.end(1, 4), 0);
        is("undo pass", x.undo(), 1);
        is("THE CLOCK", x.ask(4), 0);
        is("its LETTER is back", x.end(0, 4), 1);
        is("undo come", x.undo(), 0);
        is("nothing held", x.end(0, 4), 0);
        is("undo none", x.undo(), STATE);
        is("asking is no ACT", x.come(0) + x.ahead(5, 4) + x.judge(1, 100) + x.play(5) + x.count(4), 1 + 5 - 9 + 0 + 1);
    }

    private static void undoForgets() {
        DozeLink x = new DozeLink();
        for (int k = 1; k <= 20; k++) {
            x.pass(k);
            is("ACTS", x.count(4), Math.min(k, 14));
        }
        int clock = 210;
        for (int k = 20; k > 6; k--) {
            is("undo", x.undo(), k - 7);
            clock -= k;
            is("THE CLOCK", x.ask(4), clock);
        }
        is("the first ones are forgotten", x.undo(), STATE);
        is("THE CLOCK stays", x.ask(4), 21);
        x.pass(9);
        is("an ACT anew", x.undo(), 0);
        is("undone anew", x.ask(4), 21);
    }

    private static void undoBringsAllBack() {
        for (int round = 0; round < 9; round++) {
            for (int left = 0; left < 14; left++) {
                // A new object each time, since one is used for 512 calls at most.
                DozeLink x = told("L34234345ab3aab");
                Random random = new Random(12 + round);
                for (int i = 0; i < left; i++) {
                    actAtRandom(x, random, i);
                }
                String before = looks(x);
                for (int i = left; i < 14; i++) {
                    actAtRandom(x, random, i);
                }
                for (int i = 13; i >= left; i--) {
                    is("undo", x.undo(), i);
                }
                Due.holds("all is as ahead of ACT " + left, looks(x).equals(before));
            }
        }
    }

    private static void actAtRandom(DozeLink x, Random random, int i) {
        int end = random.nextInt(2);
        if (x.end(end, 4) == 9 || i % 3 == 0) {
            x.pass(1 + random.nextInt(9));
        } else if (random.nextBoolean()) {
            x.come(end);
        } else {
            x.tell(end, random.nextInt(3), 1 + random.nextInt(9));
        }
    }

    // ---- promise 13

    private static void ahead() {
        String before = looks(readyToLookAhead());
        DozeLink x = readyToLookAhead();
        for (int k = 0; k <= 99; k++) {
            // An object is used for 512 calls at most.
            x = readyToLookAhead();
            DozeLink y = readyToLookAhead();
            for (int i = 0; i < k; i++) {
                y.pass(1);
            }
            for (int what = 0; what <= 9; what++) {
                is("ahead " + k + ", " + what, x.ahead(k, what), y.ask(what));
            }
        }
        Due.holds("ahead changes nothing", looks(x).equals(before));
        is("ahead -1", x.ahead(-1, 0), OUTSIDE);
        is("ahead 100", x.ahead(100, 0), OUTSIDE);
        is("ahead what -1", x.ahead(0, -1), OUTSIDE);
        is("ahead what 10", x.ahead(0, 10), OUTSIDE);
        is("ahead LOST", told("L12111111aaaaaaaaaaaa").ahead(50, 9), 3);
    }

    private static DozeLink readyToLookAhead() {
        DozeLink x = told("L34234345aab");
        x.come(1);
        x.tell(0, 0, 9);
        return x;
    }

    // ---- promise 14

    private static void play() {
        DozeLink x = told(TWO_APART);
        int[] due = {87, 81, 6, 0, 17, 2};
        for (int what = 0; what < due.length; what++) {
            is("play " + what, x.play(what), due[what]);
        }
        is("play changes nothing", x.ask(4), 13);
        x.tell(0, 1, 5);
        x.come(0);
        x.pass(20);
        is("ACTS are not THE PLAY's", x.play(0), 87);
        writeAll(x, "L");
        x.link();
        is("a FAULT is not THE PLAY", x.play(0), 87);
        writeAll(x, "L191291119a4a");
        x.link();
        is("PRICE of COUNT 2", x.play(0), 81);
        writeAll(x, "L191291119aaaaaaaa1a91b");
        x.link();
        is("PRICE with END 1's LETTER alone", x.play(0), 219);
        writeAll(x, "L191991119aaaaaaaa1a91b");
        x.link();
        is("PRICE with END 1's LETTER among the others", x.play(0), 202);
        writeAll(x, "L12111111" + "a".repeat(11));
        x.link();
        // Nine TICKS to send, the last one's delay is 9; then SINK.
        int[] lossy = {90 + 45 + 40, 90, 45, 2, 10, 11};
        for (int what = 0; what < lossy.length; what++) {
            is("lossy play " + what, x.play(what), lossy[what]);
        }
        int[] first = {18, 18, 0, 0, 2, 0};
        for (int what = 0; what < first.length; what++) {
            is("first play " + what, new DozeLink().play(what), first[what]);
        }
        is("QUIET already", told("L121111115").play(4), 5);
        is("play -1", x.play(-1), OUTSIDE);
        is("play 6", x.play(6), OUTSIDE);
    }

    // ---- promise 15

    private static void judge() {
        DozeLink x = told("L123331112aa");
        long[] so = {302, 402, 410, 500, 510, 600, 100, 110, 201, 220, 701, 719};
        for (long doing : so) {
            is("judge " + doing, x.judge(1, doing), NONE);
        }
        long[] not = {0, 1, 99, 120, 101, 190, 200, 221, 299, 300, 301, 303, 304, 312, 401, 403, 411, 422, 501, 511, 502, 520,
            601, 610, 700, 710, 721, 800, 900, 999};
        for (long doing : not) {
            is("judge " + doing, x.judge(1, doing), 0);
            is("judge 302 " + doing, x.judge(2, 302000 + doing), 1);
        }
        is("nothing has changed", x.end(0, 4), 2);
        is("nothing has changed: COUNT", x.end(0, 1), 3);
        is("nothing has changed: THE CLOCK", x.ask(4), 2);
        is("no ACT", x.count(4), 0);
    }

    private static void judgeOutside() {
        DozeLink x = new DozeLink();
        long most = 1;
        for (int n = 1; n <= 4; n++) {
            most *= 1000;
            is("judge too many figures", x.judge(n, most), OUTSIDE);
            is("judge the most figures", x.judge(n, most - 1), 0);
            is("judge -1", x.judge(n, -1), OUTSIDE);
            is("judge least", x.judge(n, Long.MIN_VALUE), OUTSIDE);
            is("judge greatest", x.judge(n, Long.MAX_VALUE), OUTSIDE);
        }
        for (int n : new int[] {0, -1, 5, Integer.MAX_VALUE, Integer.MIN_VALUE}) {
            is("judge n " + n, x.judge(n, 300), OUTSIDE);
        }
    }

    private static void judgeDoes() {
        DozeLink x = told("L123331112aa");
        is("a third makes it DUE", x.judge(4, 500_100_403_501L), NONE);
        is("it wakes, sends", x.judge(4, 100_204_300_600L), NONE);
        is("it sends", x.judge(4, 100_205_601_402L), NONE);
        is("it sends more", x.judge(4, 100_207_603_301L), NONE);
        is("a COUNT of two", x.judge(3, 500_702_501L), NONE);
        is("a COUNT of nine", x.judge(4, 709_100_500_203L), NONE);
        is("AGE", x.judge(3, 202_500_302L), NONE);
        is("AGE three", x.judge(3, 203_501_303L), NONE);
        is("the third is not so", x.judge(4, 110_411_412_999L), 2);
        is("the fourth is not so", x.judge(4, 220_602_302_303L), 3);
        is("the first can not be", x.judge(4, 302_302_302L), 0);
        for (int i = 0; i < 6; i++) {
            x.come(0);
        }
        is("the ninth comes", x.judge(2, 100_409L), NONE);
        is("the tenth can not come", x.judge(3, 100_100_409L), 1);
    }

    // ---- promises 16 to 18

    private static void see() {
        DozeLink x = new DozeLink();
        is("see -1", x.see(-1, 0), OUTSIDE);
        is("see 100", x.see(100, 0), OUTSIDE);
        is("see s -1", x.see(0, -1), OUTSIDE);
        is("see s 4", x.see(0, 4), OUTSIDE);
        for (int n = 1; n <= 6; n++) {
            is("see", x.see(n == 1 ? 0 : 99, n % 4), n);
        }
        is("see the seventh", x.see(5, 0), FULL);
        is("see a wrong seventh", x.see(5, 4), OUTSIDE);
        is("SEEN", x.count(5), 6);
    }

    private static void unsee() {
        DozeLink x = new DozeLink();
        is("unsee none", x.unsee(), 0);
        x.see(1, 2);
        x.see(1, 2);
        is("which", x.which(), 0);
        is("unsee", x.unsee(), 2);
        is("unseen", x.unsee(), 0);
        is("which of nothing", x.which(), 1022);
        is("see anew", x.see(1, 1), 1);
    }

    private static void which() {
        DozeLink x = told(TWO_APART);
        int[][] rows = {{0, 0, 1022}, {1, 1, 1022}, {2, 2, 1022}, {1, 0, 0}, {9, 2, 1022}, {10, 3, 2}, {10, 2, 1020},
            {14, 3, 6}, {18, 3, 1016}, {18, 2, 6}, {17, 1, 4}, {99, 2, 1022}, {99, 0, 0}};
        for (int[] row : rows) {
            x.see(row[0], row[1]);
            is("which of " + row[0] + ", " + row[1], x.which(), row[2]);
            x.unsee();
        }
        x.see(10, 2);
        x.see(14, 3);
        is("which of both", x.which(), 4);
        x.see(17, 2);
        is("which of three", x.which(), 0);
        is("which changes nothing", x.end(0, 1), 1);
        writeAll(x, "L12111111");
        x.link();
        is("another TEXT", x.which(), 0);
        x.unsee();
        x.see(10, 2);
        x.tell(0, 1, 3);
        x.pass(20);
        is("ACTS are not THE PLAY's", x.which(), 1022);
        DozeLink y = told("L191911919b4b");
        y.see(10, 3);
        is("COUNT of END 1 is as told", y.which(), 1022);
    }

    // ---- promise 19

    private static void share() {
        DozeLink x = told("L121391119a");
        isFraction(x, 0, -12, 1);
        isFraction(x, 1, 0, 1);
        isFraction(x, 2, 9, 1);
        x = told("L121381119a");
        isFraction(x, 0, -19, 2);
        isFraction(x, 2, 23, 2);
        x.tell(0, 1, 1);
        x.pass(7);
        isFraction(x, 0, -19, 2);
        x = told("L121111389b");
        isFraction(x, 0, 0, 1);
        isFraction(x, 1, -19, 2);
        isFraction(x, 2, 23, 2);
        is("share changes nothing", x.ask(4), 9);
        for (int wrong : new int[] {-1, 3, Integer.MIN_VALUE, Integer.MAX_VALUE}) {
            is("share " + wrong, x.share(wrong, true), UNKNOWN);
            is("share " + wrong, x.share(wrong, false), UNKNOWN);
        }
    }

    private static void isFraction(DozeLink x, int saver, int above, int below) {
        is("share of " + saver + ", above", x.share(saver, true), above);
        is("share of " + saver + ", below", x.share(saver, false), below);
    }

    /** All shares make up what all SAVERS save; those of ENDS follow from TEXTS with COUNT 1. */
    private static void shareIsMean() {
        Random random = new Random(19);
        for (int round = 0; round < 40; round++) {
            String figures = figures(random);
            String events = events(random, 12);
            long all = told(figures + events).play(1);
            long awake = energyAwake(events);
            DozeLink x = told(figures + events);
            long sum = 0;
            for (int saver = 0; saver <= 2; saver++) {
                int below = x.share(saver, false);
                Due.holds("below of six", below > 0 && 6 % below == 0);
                sum += x.share(saver, true) * (6L / below);
            }
            is("sum of shares of " + figures + events, sum, 6 * (awake - all));
            long only1 = told(withCount(figures, 4)+ events).play(1);
            long only0 = told(withCount(figures, 7) + events).play(1);
            long none = told(withCount(withCount(figures, 4), 7) + events).play(1);
            is("share of 0 by TEXTS", x.share(0, true) * (6L / x.share(0, false)), (none - only0) + 2 * (only1 - all));
            is("share of 1 by TEXTS", x.share(1, true) * (6L / x.share(1, false)), (none - only1) + 2 * (only0 - all));
        }
    }

    private static String withCount(String figures, int place) {
        return figures.substring(0, place) + "1" + figures.substring(place + 1);
    }

    private static String figures(Random random) {
        StringBuilder all = new StringBuilder("L");
        all.append(1 + random.nextInt(9)).append(2 + random.nextInt(8));
        for (int i = 0; i < 6; i++) {
            all.append(1 + random.nextInt(9));
        }
        return all.toString();
    }

    private static String events(Random random, int most) {
        StringBuilder all = new StringBuilder();
        int n = random.nextInt(most + 1);
        for (int i = 0; i < n; i++) {
            all.append("aabb123459".charAt(random.nextInt(10)));
        }
        return all.toString();
    }

    /** ENERGY of a link that is AWAKE till both hold none. */
    private static long energyAwake(String events) {
        int[] held = {0, 0};
        long ticks = 0;
        for (char event : events.toCharArray()) {
            if (event >= 'a') {
                held[event - 'a'] = Math.min(9, held[event - 'a'] + 1);
            } else {
                ticks += event - '0';
                held[0] = Math.max(0, held[0] - (event - '0'));
                held[1] = Math.max(0, held[1] - (event - '0'));
            }
        }
        return 9 * (ticks + Math.max(held[0], held[1]));
    }

    // ---- promise 20

    private static void luck() {
        DozeLink x = told("L121111119a");
        int[][] rows = {{1, 36, 3, 0, 1}, {1, 37, 3, 3, 10}, {1, 68, 3, 3, 10}, {1, 69, 3, 1, 1}, {0, 68, 3, 0, 1},
            {0, 69, 3, 1, 1}, {6, 37, 4, 2, 5}, {1, 37, 0, 0, 1}, {1, 37, 10, 1, 1}, {1, 9999, 5, 1, 1}, {1, 0, 5, 0, 1}};
        for (int[] row : rows) {
            isLuck(x, row);
        }
        DozeLink y = told("L121111119aa");
        int[][] more = {{2, 69, 5, 3, 4}, {2, 77, 1, 19, 100}, {2, 37, 1, 1, 100}, {1, 69, 5, 1, 2}, {1, 37, 5, 0, 1},
            {2, 78, 7, 1, 1}, {6, 68, 2, 1, 25}};
        for (int[] row : more) {
            isLuck(y, row);
        }
        y.pass(20);
        isLuck(y, more[0]);
        is("luck changes nothing", y.ask(4), 29);
        isLuck(new DozeLink(), new int[] {6, 18, 5, 1, 1});
        int[][] wrong = {{-1, 0, 0}, {7, 0, 0}, {0, -1, 0}, {0, 10000, 0}, {0, 0, -1}, {0, 0, 11}};
        for (int[] row : wrong) {
            is("wrong luck, above", y.luck(row[0], row[1], row[2], true), OUTSIDE);
            is("wrong luck, below", y.luck(row[0], row[1], row[2], false), OUTSIDE);
        }
    }

    private static void isLuck(DozeLink x, int[] row) {
        String call = "luck " + row[0] + ", " + row[1] + ", " + row[2];
        is(call + ", above", x.luck(row[0], row[1], row[2], true), row[3]);
        is(call + ", below", x.luck(row[0], row[1], row[2], false), row[4]);
    }

    /** By TEXTS from which the LETTERS that do not come are left out. */
    private static void luckOfSome() {
        Random random = new Random(20);
        for (int round = 0; round < 30; round++) {
            String figures = figures(random);
            String events = events(random, 25);
            int n = random.nextInt(7);
            int x = random.nextInt(11);
            int v = 100 + random.nextInt(500);
            int letters = events.replaceAll("[0-9]", "").length();
            int chanced = Math.min(n, letters);
            long above = 0;
            long below = 1;
            for (int i = 0; i < chanced; i++) {
                below *= 10;
            }
            for (int missing = 0; missing < 1 << chanced; missing++) {
                if (told(figures + without(events, missing)).play(1) <= v) {
                    int gone = Integer.bitCount(missing);
                    above += Math.round(Math.pow(x, gone) * Math.pow(10 - x, chanced - gone));
                }
            }
            long divisor = java.math.BigInteger.valueOf(above).gcd(java.math.BigInteger.valueOf(below)).longValue();
            isLuck(told(figures + events), new int[] {n, v, x, (int) (above / divisor), (int) (below / divisor)});
        }
    }

    private static String without(String events, int missing) {
        StringBuilder left = new StringBuilder();
        int letters = 0;
        for (char event : events.toCharArray()) {
            if (event < 'a' || letters >= 6 || (missing >> letters & 1) == 0) {
                left.append(event);
            }
            if (event >= 'a') {
                letters++;
            }
        }
        return left.toString();
    }

    // ---- promises 21, 22

    private static void seed() {
        DozeLink x = new DozeLink();
        is("seed", x.seed(Long.MIN_VALUE), 0);
        is("seed", x.seed(Long.MAX_VALUE), Long.MIN_VALUE);
        is("seed", x.seed(-1), Long.MAX_VALUE);
        x.come(0);
        x.undo();
        is("undo leaves THE SEED", x.seed(0), -1);
    }

    private static void drawn() {
        DozeLink x = new DozeLink();
        is("drawn 0", x.drawn(0), OUTSIDE);
        is("drawn 61", x.drawn(61), OUTSIDE);
        is("drawn -1", x.drawn(-1), OUTSIDE);
        is("refused: THE SEED stays", x.seed(0), 0);
        x.drawn(1);
        is("THE SEED drawn once", x.seed(0), 1442695040888963407L);
        x.drawn(2);
        is("THE SEED drawn twice", x.seed(0), 1442695040888963407L * 6364136223846793005L + 1442695040888963407L);
        x.come(0);
        String before = looks(x);
        int first = x.drawn(60);
        Due.holds("drawn changes nothing but THE SEED", looks(x).equals(before));
        is("drawn: no ACT", x.count(4), 1);
        x.seed(0);
        is("drawn by the same seed", x.drawn(60), first);
    }

    private static void drawnIsComeAndPass() {
        Random random = new Random(22);
        for (int round = 0; round < 60; round++) {
            String signs = figures(random) + (round % 3 == 0 ? "aaaaaaaaabbbbbbbbb" : events(random, 20));
            DozeLink x = told(signs);
            DozeLink y = told(signs);
            long seed = random.nextLong();
            int m = round == 0 ? 60 : 1 + random.nextInt(60);
            x.seed(seed);
            int got = x.drawn(m);
            int delays = y.ask(7);
            for (int i = 0; i < m; i++) {
                seed = seed * 6364136223846793005L + 1442695040888963407L;
                int v = (int) (seed >>> 33);
                if (v / 2 % 4 == 0) {
                    y.come(v % 2);
                }
                y.pass(1);
            }
            is("drawn", got, y.ask(7) - delays);
            is("THE SEED", x.seed(0), seed);
        }
    }

    // ---- promises 23 to 25

    private static void keep() {
        DozeLink x = told("L121111113");
        is("keep -1", x.keep(-1), UNKNOWN);
        is("keep 2", x.keep(2), UNKNOWN);
        is("again -1", x.again(-1), UNKNOWN);
        is("again 2", x.again(2), UNKNOWN);
        is("again of none", x.again(0), STATE);
        is("keep 0", x.keep(0), 3);
        is("again of the other", x.again(1), STATE);
        x.pass(4);
        is("keep 1", x.keep(1), 7);
        is("keep is no ACT", x.count(4), 1);
        is("again 0", x.again(0), 3);
        is("again 1", x.again(1), 7);
        is("again 0 twice", x.again(0), 3);
        x.pass(2);
        is("keep 0 anew", x.keep(0), 5);
        x.pass(2);
        is("again 0 anew", x.again(0), 5);
    }

    private static void again() {
        DozeLink x = told("L23234345ab3aaaaaaaaaaaaab2");
        x.come(1);
        x.tell(0, 0, 9);
        String kept = looks(x);
        x.keep(1);
        x.tell(1, 0, 8);
        x.tell(1, 1, 8);
        x.tell(1, 2, 8);
        x.pass(20);
        x.come(0);
        Due.holds("all is another", !looks(x).equals(kept));
        is("again", x.again(1), 5);
        Due.holds("all is as kept", looks(x).equals(kept));
        is("again: no ACTS", x.count(4), 0);
        is("again: undo", x.undo(), STATE);
        x.pass(20);
        is("what is kept stays", x.again(1), 5);
        Due.holds("all is as kept once more", looks(x).equals(kept));
        x.seed(4);
        x.see(1, 1);
        x.again(1);
        is("again leaves THE SEED", x.seed(0), 4);
        is("again leaves SEEN", x.count(5), 1);
    }

    private static void count() {
        DozeLink x = told("L37111111ab1");
        x.see(1, 1);
        x.come(0);
        x.come(0);
        x.write('x');
        int[] due = {13, 3, 7, 3, 2, 1};
        for (int what = 0; what < due.length; what++) {
            is("count " + what, x.count(what), due[what]);
        }
        is("count -1", x.count(-1), OUTSIDE);
        is("count 6", x.count(6), OUTSIDE);
        is("count greatest", x.count(Integer.MAX_VALUE), OUTSIDE);
        x.wipe();
        is("wiped", x.count(0), 0);
        is("EVENTS of THE PLAY stay", x.count(3), 3);
    }
}
