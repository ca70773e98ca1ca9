/** The boundary cases of promises 1 to 25, sentence by sentence. */
final class EdgesOfCalls extends Links {
    private EdgesOfCalls() {
    }

    static void test() {
        constants();
        newObject();
        write();
        writeRefused();
        wipe();
        fault();
        link();
        linkLeaves();
        linkRefused();
        ask();
        askRefused();
        end();
        endRefused();
        held();
        heldNone();
        come();
        comeRefused();
        pass();
        passRefused();
        tell();
        tellRefused();
        undo();
        undoRefused();
        ahead();
        aheadRefused();
        play();
        playRefused();
        judge();
        judgeRefused();
        see();
        seeRefused();
        unsee();
        which();
        share();
        luck();
        seed();
        drawn();
        keep();
        again();
        againRefused();
        count();
        countRefused();
    }

    private static void constants() {
        Sentences.test("public static final int UNKNOWN = -1, OUTSIDE = -2, STATE = -3, FULL = -4, NONE = -9;");
        is("UNKNOWN", DozeLink.UNKNOWN, -1);
        is("OUTSIDE", DozeLink.OUTSIDE, -2);
        is("STATE", DozeLink.STATE, -3);
        is("FULL", DozeLink.FULL, -4);
        is("NONE", DozeLink.NONE, -9);
    }

    // ---- the link

    private static void newObject() {
        Sentences.test("DozeLink(): Awake, nothing held.");
        DozeLink x = new DozeLink();
        is("AWAKE", x.ask(0), AWAKE);
        for (int end = 0; end <= 1; end++) {
            is("nothing held", x.end(end, 4), 0);
            is("not DUE", x.end(end, 5), 0);
            for (int i = 0; i <= 9; i++) {
                is("no LETTER", x.held(end, i), NONE);
            }
        }
        DozeLink used = new DozeLink();
        used.come(0);
        used.pass(5);
        used.see(1, 1);
        used.seed(5);
        Due.holds("another one is new, too", everything(new DozeLink()).equals(everything(x)));
    }

    private static void write() {
        Sentences.test("A letter (0 to 255) comes behind THE TEXT: how long it is.");
        DozeLink x = new DozeLink();
        is("0", x.write(0), 1);
        is("255", x.write(255), 2);
        is("the first letter is 0", x.fault(), 0);
        DozeLink all = new DozeLink();
        for (int letter = 0; letter <= 255; letter++) {
            is("letter " + letter, all.write(letter), 1);
            is("wiped", all.wipe(), 1);
        }
        DozeLink y = written("L12111111");
        is("behind THE TEXT", y.write(255), 10);
        is("there", y.fault(), 9);
    }

    private static void writeRefused() {
        Sentences.test("OUTSIDE; FULL: there are 80.");
        DozeLink x = new DozeLink();
        for (int no : new int[] {LEAST, -256, -1, 256, 257, 'L' + 256, MOST}) {
            is("no letter " + no, x.write(no), OUTSIDE);
        }
        is("none came", x.count(0), 0);
        for (int n = 1; n <= 80; n++) {
            is("write", x.write(n == 1 ? 'L' : '5'), n);
        }
        is("no 81st", x.write('5'), FULL);
        is("no letter as the 81st", x.write(256), OUTSIDE);
        is("80", x.count(0), 80);
        is("they are as they were", x.link(), 71 * 5);
        x.wipe();
        is("room behind wipe", x.write('5'), 1);
    }

    private static void wipe() {
        Sentences.test("int wipe(): THE TEXT is empty: how long it was.");
        DozeLink x = new DozeLink();
        is("wipe of none", x.wipe(), 0);
        x.write('L');
        is("wipe of one", x.wipe(), 1);
        is("empty", x.count(0), 0);
        is("FAULT of an empty one", x.fault(), 0);
        is("no LINK", x.link(), STATE);
        for (int i = 0; i < 81; i++) {
            x.write('L');
        }
        is("wipe of 80", x.wipe(), 80);
        is("wiped twice", x.wipe(), 0);
        writeAll(x, "L12111111");
        is("nothing of it is left", x.fault(), NONE);
    }

    private static void fault() {
        Sentences.test("int fault(): FAULT; NONE.");
        is("empty", new DozeLink().fault(), 0);
        is("its length", written("L1211111").fault(), 8);
        is("NONE", written("L12111111").fault(), NONE);
        is("a place", written("L12111111c").fault(), 9);
        DozeLink x = written("L929999999");
        is("NONE", x.fault(), NONE);
        is("NONE once more", x.fault(), NONE);
        is("THE LINK is not told by it", x.ask(4), 0);
        is("THE TEXT stays", x.count(0), 10);
    }

    private static void link() {
        Sentences.test("THE TEXT (that stays as it is) is THE LINK, all its EVENTS done, and THE PLAY");
        DozeLink x = written("L34567891ab2");
        is("THE CLOCK", x.link(), 2);
        is("THE TEXT stays", x.count(0), 12);
        is("it can be told again", x.link(), 2);
        int[] ends = {5, 6, 7, 8, 0, 0, 8, 9, 1, 5, 0, 0};
        for (int i = 0; i < ends.length; i++) {
            is("end " + i / 6 + ", " + i % 6, x.end(i / 6, i % 6), ends[i]);
        }
        asks(x, GOING, 2, 0, 8, 2, 18, 2, 2, 1, 0);
        is("EVENTS of THE PLAY", x.count(3), 3);
        x.write('9');
        is("what is written later is not", x.count(3), 3);
        is("no EVENTS: 0", written("L12111111").link(), 0);
        is("LETTERS alone: 0", written("L12111111ab").link(), 0);
        is("as late as can be", written("L12111111" + "9".repeat(71)).link(), 639);
        DozeLink y = told("L12111111aaaaaaaaaa9");
        writeAll(y, "L12111111");
        y.link();
        asks(y, AWAKE, 0, 0, 1, 0, 0, 0, 0, 0, 0);
        is("nothing held", y.end(0, 4) + y.end(1, 4), 0);
        is("no EVENTS of the earlier PLAY", y.play(5), 0);
    }

    private static void linkLeaves() {
        Sentences.test("(THE ROW of ACTS is empty, what was kept is gone; SEEN, THE SEED stay): THE CLOCK.");
        DozeLink x = written("L12111111");
        x.come(0);
        x.keep(0);
        x.keep(1);
        x.see(99, 3);
        x.seed(Long.MIN_VALUE);
        is("link", x.link(), 0);
        is("no ACTS", x.count(4), 0);
        is("none to undo", x.undo(), STATE);
        is("nothing kept in 0", x.again(0), STATE);
        is("nothing kept in 1", x.again(1), STATE);
        is("SEEN stay", x.count(5), 1);
        is("THE SEED stays", x.seed(0), Long.MIN_VALUE);
        is("a place is used anew", x.keep(1), 0);
        is("it alone", x.again(0), STATE);
        is("it", x.again(1), 0);
    }

    private static void linkRefused() {
        Sentences.test("STATE: a FAULT.");
        for (String signs : new String[] {"", "L", "L1211111", "L12111111x", "L11111111", "l12111111", "L1211111199990"}) {
            DozeLink x = written(signs);
            x.come(1);
            x.keep(0);
            is("link of " + signs, x.link(), STATE);
            is("ACTS stay", x.count(4), 1);
            is("what is held stays", x.end(1, 4), 1);
            is("what is kept stays", x.again(0), 0);
            is("THE TEXT stays", x.count(0), signs.length());
        }
    }

    private static void ask() {
        Sentences.test("What THE LINK is (what = 0), LEFT (1; 0: neither GOING nor WAKING), SLEPT (2; 0: not ASLEEP), WAKE TIME (3), THE"
                + " CLOCK (4), ENERGY (5), SENT (6), DELAYS (7), LONGEST (8), LOST (9),");
        DozeLink x = told("L32411211aaaaaaaaaaaab");
        // Nine LETTERS of END 0, one of END 1 by the first TICK, three LOST.
        asks(x, AWAKE, 0, 0, 4, 0, 0, 0, 0, 0, 3);
        x.pass(8);
        asks(x, AWAKE, 0, 0, 4, 8, 72, 9, 37, 8, 3);
        x.pass(1);
        asks(x, GOING, 3, 0, 4, 9, 81, 10, 46, 9, 3);
        x.pass(2);
        asks(x, GOING, 1, 0, 4, 11, 99, 10, 46, 9, 3);
        x.pass(1);
        asks(x, ASLEEP, 0, 0, 4, 12, 108, 10, 46, 9, 3);
        x.pass(2);
        asks(x, ASLEEP, 0, 2, 4, 14, 114, 10, 46, 9, 3);
        x.come(1);
        x.pass(1);
        asks(x, WAKING, 4, 0, 4, 15, 115, 10, 46, 9, 3);
        x.pass(4);
        asks(x, AWAKE, 0, 0, 4, 19, 151, 10, 46, 9, 3);
        x.pass(1);
        asks(x, GOING, 3, 0, 4, 20, 160, 11, 52, 9, 3);
    }

    private static void askRefused() {
        Sentences.test("QUIET (10; NONE). OUTSIDE.");
        DozeLink x = new DozeLink();
        is("QUIET", x.ask(10), 2);
        x.pass(2);
        is("QUIET now", x.ask(10), 0);
        for (int no : new int[] {LEAST, -10, -1, 11, 12, MOST}) {
            is("ask " + no, x.ask(no), OUTSIDE);
        }
    }

    private static void end() {
        Sentences.test("Of an END OWN (what = 0), COUNT (1), AGE (2), what it HEARD (3), how many LETTERS it HOLDS (4), 1 if it is DUE, 0"
                + " (5), BEST (6).");
        DozeLink x = told("L19124319" + "9a4a9");
        int[][] due = {{1, 2, 4, 3, 0, 0}, {3, 1, 9, 1, 0, 0}};
        for (int e = 0; e <= 1; e++) {
            for (int what = 0; what <= 5; what++) {
                is("end " + e + ", " + what, x.end(e, what), due[e][what]);
            }
        }
        comeTo(x, 0, 2);
        is("HOLDS", x.end(0, 4), 2);
        is("DUE", x.end(0, 5), 1);
        is("the other HOLDS none", x.end(1, 4), 0);
        is("the other is not DUE", x.end(1, 5), 0);
        is("BEST, least", told("L12111111").end(1, 6), 1);
        is("BEST, greatest", told("L191191119aaaaaaaa1a91b").end(0, 6), 9);
    }

    private static void endRefused() {
        Sentences.test("UNKNOWN; OUTSIDE. Promise 8:");
        DozeLink x = new DozeLink();
        for (int no : new int[] {LEAST, -1, 7, 8, MOST}) {
            is("what " + no, x.end(0, no), OUTSIDE);
            is("what " + no + " of END 1", x.end(1, no), OUTSIDE);
        }
        for (int no : new int[] {LEAST, -1, 2, MOST}) {
            for (int what = -1; what <= 7; what++) {
                is("END " + no + ", " + what, x.end(no, what), UNKNOWN);
            }
        }
    }

    private static void held() {
        Sentences.test("The i-th LETTER (from 0) that an END HOLDS: 10 times the time when it came, and what it tells (0: it is plain);");
        DozeLink x = told("L99199199" + "1");
        x.come(0);
        x.pass(2);
        x.tell(0, 0, 9);
        x.pass(3);
        x.tell(0, 0, 1);
        is("the first", x.held(0, 0), 10);
        is("the second", x.held(0, 1), 39);
        is("the third", x.held(0, 2), 61);
        DozeLink y = new DozeLink();
        comeTo(y, 1, 8);
        y.tell(1, 0, 4);
        for (int i = 0; i <= 7; i++) {
            is("plain at 0", y.held(1, i), 0);
        }
        is("the ninth", y.held(1, 8), 4);
        y.pass(1);
        is("the ninth is the eighth", y.held(1, 7), 4);
    }

    private static void heldNone() {
        Sentences.test("NONE: there are not so many (below 0, too). UNKNOWN.");
        DozeLink x = new DozeLink();
        is("none held", x.held(0, 0), NONE);
        for (int n = 1; n <= 9; n++) {
            x.come(0);
            is("the last one", x.held(0, n - 1), 0);
            is("not so many", x.held(0, n), NONE);
            is("below 0", x.held(0, -1), NONE);
            is("none of END 1", x.held(1, 0), NONE);
        }
        for (int i : new int[] {LEAST, -2, 10, MOST}) {
            is("held " + i, x.held(0, i), NONE);
        }
        x.pass(9);
        is("none held any more", x.held(0, 0), NONE);
        for (int no : new int[] {LEAST, -1, 2, MOST}) {
            is("END " + no, x.held(no, 0), UNKNOWN);
            is("END " + no + ", below 0", x.held(no, -1), UNKNOWN);
            is("END " + no + ", not so many", x.held(no, 9), UNKNOWN);
        }
    }

    // ---- acts

    private static void come() {
        Sentences.test("COME: how many it HOLDS then.");
        DozeLink x = new DozeLink();
        for (int n = 1; n <= 9; n++) {
            is("END 0", x.come(0), n);
            is("END 1", x.come(1), n);
        }
        x.pass(9);
        is("one again", x.come(0), 1);
    }

    private static void comeRefused() {
        Sentences.test("UNKNOWN; FULL: it HOLDS 9.");
        DozeLink x = new DozeLink();
        comeTo(x, 0, 8);
        is("the ninth", x.come(0), 9);
        is("FULL", x.come(0), FULL);
        is("FULL twice", x.come(0), FULL);
        is("the other END is not", x.come(1), 1);
        for (int no : new int[] {LEAST, -1, 2, 10, MOST}) {
            is("END " + no, x.come(no), UNKNOWN);
        }
        x.pass(1);
        is("FULL no more", x.come(0), 9);
        DozeLink y = new DozeLink();
        y.come(1);
        for (int i = 0; i < 8; i++) {
            y.tell(1, 0, 1);
        }
        is("FULL by LETTERS that tell", y.come(1), FULL);
    }

    private static void pass() {
        Sentences.test("k TICKS pass: THE CLOCK.");
        int clock = 0;
        DozeLink x = new DozeLink();
        for (int k = 1; k <= 20; k++) {
            clock += k;
            is("pass " + k, x.pass(k), clock);
            is("THE CLOCK", x.ask(4), clock);
        }
        DozeLink y = new DozeLink();
        DozeLink z = new DozeLink();
        y.come(0);
        z.come(0);
        y.pass(20);
        for (int i = 0; i < 20; i++) {
            z.pass(1);
        }
        Due.holds("20 are 20 times one", looks(y).equals(looks(z)));
    }

    private static void passRefused() {
        Sentences.test("OUTSIDE: k (1 to 20).");
        DozeLink x = new DozeLink();
        for (int no : new int[] {LEAST, -20, -1, 0, 21, 22, MOST}) {
            is("pass " + no, x.pass(no), OUTSIDE);
        }
        is("no TICK passed", x.ask(4), 0);
        is("1", x.pass(1), 1);
        is("20", x.pass(20), 21);
    }

    private static void tell() {
        Sentences.test("TOLD: OWN (what = 0), COUNT (1), AGE (2) of an END: what it was.");
        for (int end = 0; end <= 1; end++) {
            DozeLink x = told("L12456789");
            for (int what = 0; what <= 2; what++) {
                int was = 4 + 3 * end + what;
                is("what it was told by THE TEXT", x.tell(end, what, 1), was);
                is("what it was told last", x.tell(end, what, 9), 1);
                is("the same anew", x.tell(end, what, 9), 9);
                is("as told", x.end(end, what), 9);
                is("of that END alone", x.end(1 - end, what), 7 - 3 * end + what);
            }
        }
    }

    private static void tellRefused() {
        Sentences.test("UNKNOWN; OUTSIDE: what, v (1 to 9); FULL: OWN, and it HOLDS 9.");
        DozeLink x = told("L12555555");
        for (int no : new int[] {LEAST, -1, 2, MOST}) {
            is("END " + no, x.tell(no, 0, 1), UNKNOWN);
            is("END " + no + ", wrong what", x.tell(no, 3, 1), UNKNOWN);
            is("END " + no + ", wrong v", x.tell(no, 0, 0), UNKNOWN);
        }
        for (int no : new int[] {LEAST, -1, 3, MOST}) {
            is("what " + no, x.tell(0, no, 1), OUTSIDE);
            is("what " + no + " of END 1", x.tell(1, no, 1), OUTSIDE);
        }
        for (int what = 0; what <= 2; what++) {
            for (int no : new int[] {LEAST, -1, 0, 10, MOST}) {
                is("v " + no, x.tell(0, what, no), OUTSIDE);
                is("v " + no + " of END 1", x.tell(1, what, no), OUTSIDE);
            }
        }
        is("none is told", x.count(4), 0);
        comeTo(x, 1, 8);
        is("OWN as the ninth", x.tell(1, 0, 6), 5);
        is("OWN, and it HOLDS 9", x.tell(1, 0, 7), FULL);
        is("OWN stays", x.end(1, 0), 6);
        is("COUNT, and it HOLDS 9", x.tell(1, 1, 9), 5);
        is("AGE, and it HOLDS 9", x.tell(1, 2, 9), 5);
        is("OWN of the other END", x.tell(0, 0, 9), 5);
        is("wrong v, and it HOLDS 9", x.tell(1, 0, 10), OUTSIDE);
        x.pass(1);
        is("OWN, and it HOLDS 8", x.tell(1, 0, 7), 6);
    }

    private static void undo() {
        Sentences.test("The last ACT is undone: how many are left.");
        DozeLink x = new DozeLink();
        String first = looks(x);
        x.come(1);
        String second = looks(x);
        x.pass(20);
        String third = looks(x);
        x.tell(1, 0, 9);
        is("two are left", x.undo(), 2);
        Due.holds("as ahead of the third", looks(x).equals(third));
        is("one is left", x.undo(), 1);
        Due.holds("as ahead of the second", looks(x).equals(second));
        is("none is left", x.undo(), 0);
        Due.holds("as ahead of the first", looks(x).equals(first));
        x.pass(3);
        is("another one in its place", x.undo(), 0);
        Due.holds("as ahead of that", looks(x).equals(first));
        for (int i = 0; i < 20; i++) {
            x.pass(1);
        }
        is("of 20 14 can be undone", x.undo(), 13);
        is("the last one", x.ask(4), 19);
    }

    private static void undoRefused() {
        Sentences.test("STATE: there is none.");
        DozeLink x = new DozeLink();
        is("none yet", x.undo(), STATE);
        x.come(0);
        is("one", x.undo(), 0);
        is("none left", x.undo(), STATE);
        x.keep(0);
        x.come(0);
        x.again(0);
        is("none behind again", x.undo(), STATE);
        x.come(0);
        writeAll(x, "L12111111a1");
        x.link();
        is("none behind link", x.undo(), STATE);
        is("EVENTS are no ACTS", x.ask(4), 1);
    }

    // ---- asked

    private static void ahead() {
        Sentences.test("AHEAD k: as ask() tells it then (what 0 to 9).");
        for (int k : new int[] {0, 1, 98, 99}) {
            DozeLink x = told("L32411211aaaaaaaaaaaab");
            DozeLink y = told("L32411211aaaaaaaaaaaab");
            for (int i = 0; i < k; i++) {
                y.pass(1);
            }
            for (int what = 0; what <= 9; what++) {
                is("ahead " + k + ", " + what, x.ahead(k, what), y.ask(what));
            }
        }
    }

    private static void aheadRefused() {
        Sentences.test("OUTSIDE: k, what.");
        DozeLink x = new DozeLink();
        for (int no : new int[] {LEAST, -1, 100, 101, MOST}) {
            is("k " + no, x.ahead(no, 0), OUTSIDE);
        }
        for (int no : new int[] {LEAST, -1, 10, 11, MOST}) {
            is("what " + no, x.ahead(0, no), OUTSIDE);
            is("what " + no + " at 99", x.ahead(99, no), OUTSIDE);
        }
        is("both", x.ahead(100, 10), OUTSIDE);
    }

    private static void play() {
        Sentences.test("Of THE PLAY PRICE (what = 0), ENERGY (1), DELAYS (2), LOST (3), its last time of THE CLOCK (4), LETTERS that come by"
                + " it, LOST ones, too (5).");
        DozeLink x = told("L32411211aaaaaaaaaaaab");
        int[] due = {108 + 46 + 60, 108, 46, 3, 12, 13};
        for (int what = 0; what < due.length; what++) {
            is("play " + what, x.play(what), due[what]);
        }
        is("71 LETTERS, LOST ones, too", told("L12111111" + "b".repeat(71)).play(5), 71);
        is("no LETTERS", told("L12111111" + "9".repeat(71)).play(5), 0);
    }

    private static void playRefused() {
        Sentences.test("OUTSIDE. Promise 15:");
        DozeLink x = new DozeLink();
        for (int no : new int[] {LEAST, -1, 6, 7, MOST}) {
            is("play " + no, x.play(no), OUTSIDE);
        }
    }

    private static void judge() {
        Sentences.test("int judge(int n, long row): JUDGED; NONE.");
        DozeLink x = new DozeLink();
        is("NONE of one", x.judge(1, 300), NONE);
        is("NONE of four", x.judge(4, 300_100_201_301L), NONE);
        is("the first of one", x.judge(1, 301), 0);
        is("the last of four", x.judge(4, 300_100_201_302L), 3);
    }

    private static void judgeRefused() {
        Sentences.test("OUTSIDE: n, row (0 or more, 3 n figures at most).");
        DozeLink x = new DozeLink();
        for (int no : new int[] {LEAST, -1, 0, 5, 6, MOST}) {
            is("n " + no, x.judge(no, 300), OUTSIDE);
            is("n " + no + ", row 0", x.judge(no, 0), OUTSIDE);
        }
        long beyond = 1;
        for (int n = 1; n <= 4; n++) {
            beyond *= 1000;
            is("row 0", x.judge(n, 0), 0);
            is("row -1", x.judge(n, -1), OUTSIDE);
            is("the least row", x.judge(n, Long.MIN_VALUE), OUTSIDE);
            is("3 n figures", x.judge(n, beyond - 1), 0);
            is("3 n figures and one", x.judge(n, beyond), OUTSIDE);
            is("another one", x.judge(n, beyond + 300), OUTSIDE);
            is("the greatest row", x.judge(n, Long.MAX_VALUE), OUTSIDE);
        }
        is("64 bits", x.judge(1, (1L << 32) + 300), OUTSIDE);
        is("64 bits, less than 0", x.judge(1, -(1L << 32) + 300), OUTSIDE);
    }

    // ---- seen

    private static void see() {
        Sentences.test("SEEN: how many there are.");
        DozeLink x = new DozeLink();
        for (int n = 1; n <= 6; n++) {
            is("see", x.see(n, n % 4), n);
        }
        x.unsee();
        is("the first anew", x.see(5, 2), 1);
        is("the same is another one", x.see(5, 2), 2);
    }

    private static void seeRefused() {
        Sentences.test("OUTSIDE: c (0 to 99), s (0 to 3); FULL: 6.");
        DozeLink x = new DozeLink();
        for (int no : new int[] {LEAST, -1, 100, 101, MOST}) {
            is("c " + no, x.see(no, 0), OUTSIDE);
        }
        for (int no : new int[] {LEAST, -1, 4, 5, MOST}) {
            is("s " + no, x.see(0, no), OUTSIDE);
        }
        is("nothing SEEN", x.count(5), 0);
        is("0, 0", x.see(0, 0), 1);
        is("99, 3", x.see(99, 3), 2);
        is("0, 3", x.see(0, 3), 3);
        is("99, 0", x.see(99, 0), 4);
        is("the fifth", x.see(1, 1), 5);
        is("the sixth", x.see(2, 2), 6);
        is("FULL", x.see(3, 2), FULL);
        is("FULL, wrong c", x.see(-1, 2), OUTSIDE);
        is("FULL, wrong s", x.see(3, -1), OUTSIDE);
        is("six", x.count(5), 6);
    }

    private static void unsee() {
        Sentences.test("Nothing is SEEN: how much there was.");
        DozeLink x = new DozeLink();
        is("nothing", x.unsee(), 0);
        x.see(0, WAKING);
        is("one", x.unsee(), 1);
        is("nothing is SEEN", x.count(5), 0);
        is("it counts no more", x.which(), 1022);
        for (int i = 0; i < 7; i++) {
            x.see(0, GOING);
        }
        is("six", x.unsee(), 6);
        is("nothing is SEEN any more", x.unsee(), 0);
    }

    private static void which() {
        Sentences.test("int which(): WHICH.");
        DozeLink x = new DozeLink();
        is("all, if nothing is SEEN", x.which(), 1022);
        x.see(0, GOING);
        is("none", x.which(), 0);
    }

    // ---- shares, chances

    private static void share() {
        Sentences.test("SHARE. UNKNOWN: saver (0 to 2).");
        DozeLink x = told("L121381119a");
        int[][] due = {{-19, 2}, {0, 1}, {23, 2}};
        for (int saver = 0; saver <= 2; saver++) {
            is("above", x.share(saver, true), due[saver][0]);
            is("below", x.share(saver, false), due[saver][1]);
        }
        for (int no : new int[] {LEAST, -1, 3, 4, MOST}) {
            is("saver " + no, x.share(no, true), UNKNOWN);
            is("saver " + no + ", below", x.share(no, false), UNKNOWN);
        }
    }

    private static void luck() {
        Sentences.test("LUCK. OUTSIDE: n, v, x.");
        DozeLink x = new DozeLink();
        for (int no : new int[] {LEAST, -1, 7, 8, MOST}) {
            is("n " + no, x.luck(no, 0, 0, true), OUTSIDE);
            is("n " + no + ", below", x.luck(no, 0, 0, false), OUTSIDE);
        }
        for (int no : new int[] {LEAST, -1, 10000, 10001, MOST}) {
            is("v " + no, x.luck(0, no, 0, true), OUTSIDE);
            is("v " + no + ", below", x.luck(0, no, 0, false), OUTSIDE);
        }
        for (int no : new int[] {LEAST, -1, 11, 12, MOST}) {
            is("x " + no, x.luck(0, 0, no, true), OUTSIDE);
            is("x " + no + ", below", x.luck(0, 0, no, false), OUTSIDE);
        }
        is("all the least", x.luck(0, 0, 0, true), 0);
        is("all the least, below", x.luck(0, 0, 0, false), 1);
        is("all the greatest", x.luck(6, 9999, 10, true), 1);
        is("all the greatest, below", x.luck(6, 9999, 10, false), 1);
    }

    private static void seed() {
        Sentences.test("THE SEED is v: what it was.");
        DozeLink x = new DozeLink();
        long before = 0;
        for (long v : new long[] {Long.MIN_VALUE, Long.MAX_VALUE, -1, 0, 1, 1L << 32, 1L << 31, Integer.MIN_VALUE}) {
            is("seed " + v, x.seed(v), before);
            before = v;
        }
        x.come(0);
        x.keep(0);
        x.again(0);
        x.undo();
        is("nothing else changes it", x.seed(0), Integer.MIN_VALUE);
    }

    private static void drawn() {
        Sentences.test("DRAWN. OUTSIDE: m.");
        DozeLink x = new DozeLink();
        for (int no : new int[] {LEAST, -60, -1, 0, 61, 62, MOST}) {
            is("m " + no, x.drawn(no), OUTSIDE);
        }
        is("THE SEED stays", x.seed(2), 0);
        Due.holds("m 1", x.drawn(1) >= 0);
        Due.holds("m 60", x.drawn(60) >= 0);
        x.seed(2);
        is("m 6 by 2", x.drawn(6), 6);
        is("THE SEED behind it", x.seed(2), 8119572962061839096L);
    }

    // ---- places to keep in

    private static void keep() {
        Sentences.test("They are kept: THE CLOCK. UNKNOWN.");
        DozeLink x = new DozeLink();
        for (int no : new int[] {LEAST, -1, 2, 3, MOST}) {
            is("slot " + no, x.keep(no), UNKNOWN);
        }
        is("0 is empty still", x.again(0), STATE);
        is("1 is empty still", x.again(1), STATE);
        is("THE CLOCK, 0", x.keep(0), 0);
        x.pass(20);
        is("THE CLOCK, 1", x.keep(1), 20);
        is("0 is as it was kept", x.again(0), 0);
        x.pass(7);
        is("0 anew", x.keep(0), 7);
        x.pass(1);
        is("the last one kept", x.again(0), 7);
        is("1 is as it was kept", x.again(1), 20);
    }

    private static void again() {
        Sentences.test("They are as they were kept: THE CLOCK.");
        DozeLink x = told("L94234345aab9");
        x.come(0);
        x.tell(1, 2, 9);
        String kept = looks(x);
        x.keep(0);
        x.come(0);
        x.come(1);
        x.pass(20);
        x.tell(0, 0, 5);
        for (int i = 0; i < 3; i++) {
            is("THE CLOCK", x.again(0), 9);
            Due.holds("as they were kept", looks(x).equals(kept));
            x.pass(11);
            x.come(1);
        }
        x.undo();
        x.undo();
        Due.holds("undone", looks(x).equals(kept));
    }

    private static void againRefused() {
        Sentences.test("UNKNOWN; STATE: none were kept.");
        DozeLink x = new DozeLink();
        x.come(0);
        for (int no : new int[] {LEAST, -1, 2, 3, MOST}) {
            is("slot " + no, x.again(no), UNKNOWN);
        }
        is("none kept in 0", x.again(0), STATE);
        is("none kept in 1", x.again(1), STATE);
        is("ACTS stay", x.count(4), 1);
        x.keep(1);
        is("none kept in 0 still", x.again(0), STATE);
        is("kept in 1", x.again(1), 0);
        is("what was kept HOLDS", x.end(0, 4), 1);
    }

    private static void count() {
        Sentences.test("0 letters of THE TEXT, 1 SINK, 2 REFRESH, 3 EVENTS of THE PLAY, 4 ACTS in the row,");
        DozeLink x = told("L37111111ab1a");
        x.write('x');
        x.come(0);
        x.pass(1);
        x.see(1, 1);
        int[] due = {14, 3, 7, 4, 2, 1};
        for (int what = 0; what < due.length; what++) {
            is("count " + what, x.count(what), due[what]);
        }
        DozeLink most = told("L99111111" + "1".repeat(71));
        for (int i = 0; i < 20; i++) {
            most.pass(1);
            most.see(1, 1);
        }
        int[] greatest = {80, 9, 9, 71, 14, 6};
        for (int what = 0; what < greatest.length; what++) {
            is("the greatest count " + what, most.count(what), greatest[what]);
        }
    }

    private static void countRefused() {
        Sentences.test("5 SEEN. OUTSIDE.");
        DozeLink x = new DozeLink();
        for (int no : new int[] {LEAST, -1, 6, 7, MOST}) {
            is("count " + no, x.count(no), OUTSIDE);
        }
    }
}
