import java.math.BigInteger;

/** The boundary cases of the document's terms, parts 2 to 4, sentence by sentence. */
final class EdgesOfAsking extends Links {
    /** It is ASLEEP; END 0 (wake time, COUNT, AGE 3) HOLDS two LETTERS that came at 2, just now. */
    private static final String TWO_HELD = "L123331112aa";
    /** ENERGY is 37 at 9, when the LETTERS come that are written behind it; 60 and 9 for each one that comes. */
    private static final String ASLEEP_AT_9 = "L121111119";
    /** A LETTER at 9 and one at 13; by COUNT 2 both are SENT at once. */
    private static final String TWO_APART = "L191191119a4a";

    private EdgesOfAsking() {
    }

    static void test() {
        nothingIsChanged();
        ahead();
        quiet();
        play();
        price();
        best();
        playAtFirst();
        doings();
        doingCome();
        doingTicks();
        doingLink();
        doingHolds();
        doingDue();
        doingSent();
        doingCount();
        firstThatCanNotBe();
        doneFromThenOn();
        seen();
        seenByTicks();
        seenSix();
        which();
        saversOfEnds();
        saverOfLink();
        share();
        luck();
        luckOrLess();
        drawnTicks();
        seedWraps();
        drawnLetters();
        drawnDelays();
        slots();
        awakeSends();
        goingWaits();
        wakeTimeAsItWakes();
        ageByTheClock();
        ticksGoOn();
        awakeAllTheTime();
    }

    // ---- how it will be

    private static void nothingIsChanged() {
        Sentences.test("In what follows nothing is changed.");
        DozeLink x = told("L34234345aab2b");
        x.come(0);
        x.tell(1, 0, 7);
        x.see(3, 1);
        String before = everything(x);
        for (int what = 0; what <= 9; what++) {
            x.ahead(99, what);
        }
        x.ask(10);
        for (int what = 0; what <= 5; what++) {
            x.play(what);
        }
        x.end(0, 6);
        x.end(1, 6);
        x.judge(4, 100_220_709_110L);
        x.which();
        for (int saver = 0; saver <= 2; saver++) {
            x.share(saver, true);
            x.share(saver, false);
        }
        x.luck(6, 100, 5, true);
        x.luck(6, 100, 5, false);
        Due.holds("all is as it was", everything(x).equals(before));
        is("undo", x.undo(), 1);
    }

    private static void ahead() {
        Sentences.test("AHEAD k: how it is behind k TICKS (0 to 99) with no more LETTERS.");
        DozeLink x = told("L34234345aab");
        for (int what = 0; what <= 9; what++) {
            is("0 TICKS: " + what, x.ahead(0, what), x.ask(what));
        }
        is("1 TICK", x.ahead(1, 4), 1);
        is("99 TICKS", x.ahead(99, 4), 99);
        is("no -1", x.ahead(-1, 4), OUTSIDE);
        is("no 100", x.ahead(100, 4), OUTSIDE);
        is("all that are held are SENT", x.ahead(99, 6), 3);
        // AWAKE two TICKS, GOING three, ASLEEP 94 with 23 REFRESHES: no LETTER wakes it.
        is("no more LETTERS", x.ahead(99, 5), 45 + 94 + 4 * 23);
        is("SLEPT", x.ahead(99, 2), 94);
        DozeLink late = told("L12111111" + "9".repeat(71));
        is("99 TICKS from the latest TEXT", late.ahead(99, 4), 738);
    }

    private static void quiet() {
        Sentences.test("QUIET: the least k (0 to 99) so that AHEAD k THE LINK is ASLEEP and both ENDS HOLD none; NONE.");
        is("ASLEEP, none held", told("L121111112").ask(10), 0);
        is("ASLEEP for long", told("L1211111199").ask(10), 0);
        is("GOING, none held", told("L121111111").ask(10), 1);
        is("AWAKE, none held", told("L92111111").ask(10), 10);
        // DUE by AGE behind nine TICKS, then one each of WAKING, AWAKE, GOING.
        is("ASLEEP, END 0 HOLDS one", told("L121991112a").ask(10), 12);
        is("ASLEEP, END 1 HOLDS one", told("L121111992b").ask(10), 12);
        is("ASLEEP, the other END HOLDS one", told("L121111992ab").ask(10), 4);
        // No state is further from it: GOING 9, ASLEEP 1, WAKING 9, AWAKE 9, GOING 9; so that it is never NONE.
        DozeLink x = told("L929999991");
        comeTo(x, 0, 9);
        comeTo(x, 1, 9);
        is("as far as can be", x.ask(10), 37);
        is("AHEAD one less", x.ahead(36, 0), GOING);
        is("AHEAD so many", x.ahead(37, 0), ASLEEP);
        x.pass(20);
        is("nearer", x.ask(10), 17);
    }

    private static void play() {
        Sentences.test("THE PLAY is THE LINK as it was told last by a TEXT, all its EVENTS, then TICKS, as many as it takes till it is"
                + " QUIET, 99 at most.");
        is("no EVENTS", told("L92999999").play(4), 10);
        is("one TICK ahead of QUIET", told("L121111111").play(4), 2);
        is("QUIET by the last EVENT", told("L121111112").play(4), 2);
        is("QUIET long ahead of the last EVENT", told("L121111119").play(4), 9);
        is("a LETTER as the last EVENT", told("L121111112a").play(4), 6);
        is("as many as can be", told("L929999991aaaaaaaaabbbbbbbbb").play(4), 38);
        is("the longest", told("L12111111" + "9".repeat(70) + "a").play(4), 634);
        DozeLink x = told("L121111112a");
        x.come(1);
        x.pass(20);
        is("ACTS are not of it", x.play(4), 6);
        writeAll(x, "L12111111x");
        x.link();
        is("a TEXT with a FAULT is not", x.play(4), 6);
        writeAll(x, "L121111115");
        is("a TEXT that is only written is not", x.play(4), 6);
        x.link();
        is("the last one told is", x.play(4), 5);
    }

    private static void price() {
        Sentences.test("PRICE of a PLAY: ENERGY, DELAYS, and 20 for each LETTER that is LOST.");
        String head = "L12111111";
        is("none LOST", told(head + "a".repeat(9)).play(0), 90 + 45);
        is("one LOST", told(head + "a".repeat(10)).play(0), 90 + 45 + 20);
        is("two LOST", told(head + "a".repeat(11)).play(0), 90 + 45 + 40);
        is("one of END 1 LOST", told(head + "a".repeat(9) + "b".repeat(10)).play(0), 90 + 90 + 20);
        is("as many as can be LOST", told(head + "a".repeat(71)).play(0), 90 + 45 + 20 * 62);
        is("no LETTER", told(head).play(0), 18);
    }

    private static void best() {
        Sentences.test("BEST of an END: the COUNT (1 to 9) of that END by which, in place of what was told, THE PLAY has the least PRICE;"
                + " of like ones the least.");
        for (int count = 1; count <= 9; count++) {
            is("in place of what was told", told("L191" + count + "91119a4a").end(0, 6), 2);
            is("of END 1, in place of what was told", told("L191111" + count + "99b4b").end(1, 6), 2);
        }
        is("all are alike", told("L12111111").end(0, 6), 1);
        // At 13 COUNT 1 has cost 56, the others 33; QUIET they are 56 and 76.
        is("of THE PLAY till it is QUIET", told("L191191119a4").end(0, 6), 1);
        is("all are alike, of END 1", told(TWO_APART).end(1, 6), 1);
        // ENERGY is 93, by COUNTS of 3 or more 83; PRICE 103, by these 111.
        is("DELAYS count", told("L191191119aa8a").end(0, 6), 1);
        // ENERGY and DELAYS are 223, by COUNTS of 2 or more 208, but one LETTER is LOST by these.
        is("LETTERS that are LOST count", told("L191191119a8aaaaaaaaa").end(0, 6), 1);
        // By COUNT 9 (PRICE 202, else 219) END 1's LETTER finds THE LINK AWAKE still.
        is("9", told("L191191119aaaaaaaa1a91b").end(0, 6), 9);
        is("9 of END 1", told("L191111199bbbbbbbb1b91a").end(1, 6), 9);
        String[] others = {"L191?91119a2a91b", "L232?53349a3ab2a5b9aab", "L191?21119aaaaaaaaa92b", "L123?91129aabb4ab9a"};
        for (String signs : others) {
            is("by all PLAYS " + signs, told(signs.replace('?', '5')).end(0, 6), bestByPlays(signs));
        }
    }

    /** By TEXTS with each COUNT in place of the question mark. */
    private static int bestByPlays(String signs) {
        int best = 1;
        for (int count = 2; count <= 9; count++) {
            int price = told(signs.replace('?', (char) ('0' + count))).play(0);
            if (price < told(signs.replace('?', (char) ('0' + best))).play(0)) {
                best = count;
            }
        }
        return best;
    }

    private static void playAtFirst() {
        Sentences.test("(Before any TEXT was told THE PLAY is THE LINK as at first, without EVENTS.)");
        DozeLink x = new DozeLink();
        x.come(0);
        x.tell(1, 1, 5);
        x.pass(9);
        writeAll(x, "L9");
        x.link();
        int[] due = {18, 18, 0, 0, 2, 0};
        for (int what = 0; what < due.length; what++) {
            is("play " + what, x.play(what), due[what]);
        }
        is("EVENTS", x.count(3), 0);
        is("BEST", x.end(0, 6), 1);
        x.see(0, AWAKE);
        x.see(1, GOING);
        x.see(2, ASLEEP);
        is("WHICH", x.which(), 1022);
        is("SHARE", x.share(2, true), -18);
        is("LUCK", x.luck(6, 18, 5, true), 1);
        is("LUCK of less", x.luck(6, 17, 5, true), 0);
    }

    // ---- judged

    private static void doings() {
        Sentences.test("JUDGED: n doings (1 to 4), told as three figures each (the first one's are the highest of row)");
        DozeLink x = told(TWO_HELD);
        is("no 0", x.judge(0, 0), OUTSIDE);
        is("1", x.judge(1, 302), NONE);
        is("2", x.judge(2, 302_402), NONE);
        is("3", x.judge(3, 302_402_410), NONE);
        is("4", x.judge(4, 302_402_410_500L), NONE);
        is("no 5", x.judge(5, 302_402_410_500L), OUTSIDE);
        is("the highest are the first one's", x.judge(2, 303_302), 0);
        is("the lowest are the last one's", x.judge(2, 302_303), 1);
        is("the lowest of four", x.judge(4, 302_302_302_303L), 3);
        is("figures that are not told are 0", x.judge(2, 302), 0);
        is("a row of 0", x.judge(4, 0), 0);
        is("the first of two is 0, 0, 0", x.judge(2, 402), 0);
        is("the greatest row", x.judge(4, 999_999_999_999L), 0);
        for (int kind : new int[] {0, 8, 9}) {
            for (int rest = 0; rest <= 99; rest++) {
                is("no such doing", x.judge(1, 100 * kind + rest), 0);
            }
        }
    }

    /** Which third figures can be (or are so) behind the first two, as bits. */
    private static int thirds(DozeLink x, int firstTwo) {
        int so = 0;
        for (int third = 0; third <= 9; third++) {
            so |= x.judge(1, 10 * firstTwo + third) == NONE ? 1 << third : 0;
        }
        return so;
    }

    private static void noSuchEnds(DozeLink x, int kind) {
        for (int end = 2; end <= 9; end++) {
            is("no END " + end, thirds(x, 10 * kind + end), 0);
        }
    }

    private static void doingCome() {
        Sentences.test("(1, an END, 0: COME;");
        DozeLink x = told(TWO_HELD);
        is("to END 0, with 0 alone", thirds(x, 10), 1);
        is("to END 1, with 0 alone", thirds(x, 11), 1);
        noSuchEnds(x, 1);
        is("it came", x.judge(2, 100_403), NONE);
        is("it came to END 1", x.judge(2, 110_411), NONE);
        comeTo(x, 0, 6);
        is("the ninth", x.judge(2, 100_409), NONE);
        is("no tenth", x.judge(2, 100_100), 1);
        x.come(0);
        is("no tenth at once", x.judge(1, 100), 0);
        is("END 1 has room", x.judge(1, 110), NONE);
        comeTo(x, 1, 9);
        is("no tenth to END 1", x.judge(1, 110), 0);
    }

    private static void doingTicks() {
        Sentences.test("2, two figures: so many TICKS pass (1 to 20);");
        DozeLink x = told(TWO_HELD);
        // DUE by AGE behind three, WAKING three, then one LETTER each, GOING one, ASLEEP.
        int[] links = {ASLEEP, ASLEEP, ASLEEP, WAKING, WAKING, WAKING, AWAKE, AWAKE, GOING};
        for (int k = 0; k <= 99; k++) {
            boolean may = k >= 1 && k <= 20;
            is(k + " TICKS", x.judge(1, 200 + k), may ? NONE : 0);
            int link = k < links.length ? links[k] : ASLEEP;
            is("THE LINK behind " + k, x.judge(2, 1000L * (200 + k) + 300 + link), may ? NONE : 0);
            is("another LINK behind " + k, x.judge(2, 1000L * (200 + k) + 300 + (link + 1) % 4), may ? 1 : 0);
        }
    }

    private static void doingLink() {
        Sentences.test("3, 0, s: THE LINK is s (0 to 3);");
        DozeLink x = new DozeLink();
        for (int s = 0; s <= 3; s++) {
            is("THE LINK", x.ask(0), s);
            is("that one alone", thirds(x, 30), 1 << s);
            for (int second = 1; second <= 9; second++) {
                is("0 stands between", thirds(x, 30 + second), 0);
            }
            if (s == ASLEEP) {
                x.come(0);
            }
            x.pass(1);
        }
    }

    private static void doingHolds() {
        Sentences.test("4, an END, v: it HOLDS v;");
        for (int end = 0; end <= 1; end++) {
            DozeLink x = new DozeLink();
            for (int v = 0; v <= 9; v++) {
                is("that many alone", thirds(x, 40 + end), 1 << v);
                is("the other END", thirds(x, 41 - end), 1);
                x.come(end);
            }
            noSuchEnds(x, 4);
        }
    }

    private static void doingDue() {
        Sentences.test("5, an END, 1 or 0: it is DUE, or not;");
        DozeLink x = told(TWO_HELD);
        is("END 0 is not", thirds(x, 50), 0b01);
        is("END 1 is not", thirds(x, 51), 0b01);
        x.come(0);
        is("END 0 is", thirds(x, 50), 0b10);
        is("END 1 is not still", thirds(x, 51), 0b01);
        x.come(1);
        is("END 1 is", thirds(x, 51), 0b10);
        noSuchEnds(x, 5);
    }

    private static void doingSent() {
        Sentences.test("6, two figures: so many were SENT;");
        DozeLink x = new DozeLink();
        is("none", x.judge(1, 600), NONE);
        is("not one", x.judge(1, 601), 0);
        for (int round = 0; round < 5; round++) {
            comeTo(x, 0, 9);
            comeTo(x, 1, 9);
            x.pass(20);
        }
        comeTo(x, 0, 9);
        x.pass(20);
        is("99 were SENT", x.ask(6), 99);
        is("99", x.judge(1, 699), NONE);
        is("not 98", x.judge(1, 698), 0);
        is("not 9", x.judge(1, 609), 0);
        x.come(0);
        is("100 behind TICKS", x.judge(2, 220_600), 1);
        x.pass(20);
        is("100 were SENT", x.ask(6), 100);
        for (int both = 0; both <= 99; both++) {
            is("100 can not be told", x.judge(1, 600 + both), 0);
        }
    }

    private static void doingCount() {
        Sentences.test("7, an END, v: its COUNT is told v):");
        DozeLink x = told(TWO_HELD);
        is("1 to 9 of END 0", thirds(x, 70), 0b11_1111_1110);
        is("1 to 9 of END 1", thirds(x, 71), 0b11_1111_1110);
        noSuchEnds(x, 7);
        is("by COUNT 2 it is DUE", x.judge(2, 702_501), NONE);
        is("by COUNT 3 it is not", x.judge(2, 703_500), NONE);
        is("by COUNT 1 it is", x.judge(2, 701_501), NONE);
        is("COUNT of END 1 is another", x.judge(2, 711_500), NONE);
        is("no COUNT 0", x.judge(2, 302_700), 1);
        x.come(0);
        is("by COUNT 9 it is DUE no more", x.judge(3, 501_709_500), NONE);
        is("COUNT is as it was", x.end(0, 1), 3);
    }

    private static void firstThatCanNotBe() {
        Sentences.test("the place of the first that can not be (or is not so); NONE: none.");
        DozeLink x = told(TWO_HELD);
        is("none", x.judge(4, 302_201_302_402L), NONE);
        is("the first can not be", x.judge(4, 120_302_302_302L), 0);
        is("the second is not so", x.judge(4, 302_303_302_302L), 1);
        is("the third can not be", x.judge(4, 302_302_221_302L), 2);
        is("the fourth is not so", x.judge(4, 302_302_302_411L), 3);
        is("the first of two that are not so", x.judge(4, 302_303_302_303L), 1);
        is("one that is not so ahead of one that can not be", x.judge(2, 303_999), 0);
        is("one that can not be ahead of one that is not so", x.judge(2, 999_303), 0);
    }

    private static void doneFromThenOn() {
        Sentences.test("1, 2, 7 are done, from then on (for this call alone); 3 to 6 are asked as it is then.");
        DozeLink x = told(TWO_HELD);
        String before = everything(x);
        is("asked ahead of COME, and behind", x.judge(4, 402_100_403_501L), NONE);
        is("asked ahead of TICKS, and behind", x.judge(4, 302_203_303_501L), NONE);
        is("asked ahead of COUNT, and behind", x.judge(4, 500_702_501_302L), NONE);
        is("SENT as it is then", x.judge(4, 600_208_602_400L), NONE);
        is("all three are done, not woken by COUNT 4", x.judge(4, 100_704_201_303L), 3);
        is("all three are done, woken by COUNT 3", x.judge(4, 100_703_201_303L), NONE);
        is("COME twice", x.judge(4, 100_100_404_501L), NONE);
        is("for that call alone", x.judge(2, 402_500), NONE);
        Due.holds("all is as it was", everything(x).equals(before));
        is("no ACT", x.count(4), 0);
    }

    // ---- seen

    private static void seen() {
        Sentences.test("SEEN: that, COUNT of END 0 being an unknown one of 1 to 9 in THE PLAY, with THE CLOCK at c (0 to 99) THE LINK was s"
                + " (0 to 3)");
        for (int count = 1; count <= 9; count++) {
            DozeLink x = told("L121" + count + "91113a1");
            x.see(4, WAKING);
            is("whatever COUNT was told, 1 alone", x.which(), 1 << 1);
            DozeLink eight = told("L121" + count + "91113aaaaaaaa1");
            eight.see(4, ASLEEP);
            is("whatever COUNT was told, 9 alone", eight.which(), 1 << 9);
            DozeLink y = told("L121" + count + "9119" + "3b1");
            y.see(4, WAKING);
            is("COUNT of END 1 is as told", y.which(), 1022);
        }
        DozeLink x = new DozeLink();
        is("at 0", x.see(0, AWAKE), 1);
        is("at 99", x.see(99, ASLEEP), 2);
        is("both are so", x.which(), 1022);
        is("not at -1", x.see(-1, AWAKE), OUTSIDE);
        is("not at 100", x.see(100, ASLEEP), OUTSIDE);
        is("not -1", x.see(0, -1), OUTSIDE);
        is("not 4", x.see(0, 4), OUTSIDE);
        is("0", x.see(1, 0), 3);
        is("3", x.see(1, 3), 4);
        is("it is neither", x.which(), 0);
    }

    private static int seenSo(String signs, int c, int s) {
        DozeLink x = told(signs);
        x.see(c, s);
        return x.which();
    }

    private static void seenByTicks() {
        Sentences.test("(behind the EVENTS there are only TICKS, with no end; all EVENTS up to that TICK that makes THE CLOCK c are done):");
        String three = "L121191113a1";
        is("at 0, ahead of all TICKS", seenSo(three, 0, AWAKE), 1022);
        is("at 0 it was not GOING", seenSo(three, 0, GOING), 0);
        is("amid the TICKS of an EVENT", seenSo(three, 1, GOING), 1022);
        is("amid the TICKS of an EVENT, later", seenSo(three, 2, ASLEEP), 1022);
        is("a LETTER that comes at c", seenSo(three, 3, ASLEEP), 1022);
        is("one that came ahead of the TICK that makes c", seenSo(three, 4, WAKING), 1 << 1);
        is("behind the EVENTS", seenSo(three, 5, AWAKE), 1 << 1);
        is("behind the EVENTS, by AGE", seenSo(three, 12, WAKING), 1022 - 2);
        is("behind the EVENTS, when it was QUIET long ago", seenSo(three, 99, ASLEEP), 1022);
        is("no EVENTS at all", seenSo("L12111111", 99, ASLEEP), 1022);
        is("GOING for long, behind no EVENTS", seenSo("L92111111", 9, GOING), 1022);
        is("and ASLEEP then", seenSo("L92111111", 10, ASLEEP), 1022);
        // It sends one of END 1's at 99 by its last TICK; what comes later is not done.
        String long99 = "L12111111" + "9".repeat(10) + "6b3" + "a9";
        is("by the last TICK", seenSo(long99, 99, GOING), 1022);
        is("it was AWAKE ahead of that", seenSo(long99, 98, AWAKE), 1022);
        is("EVENTS behind 99 are not done", seenSo("L12111111" + "9".repeat(71), 99, ASLEEP), 1022);
    }

    private static void seenSix() {
        Sentences.test("never more than 6, none at first (another TEXT leaves them).");
        DozeLink x = new DozeLink();
        is("none at first", x.count(5), 0);
        is("so all COUNTS are so", x.which(), 1022);
        for (int n = 1; n <= 6; n++) {
            is("see", x.see(n + 1, ASLEEP), n);
        }
        is("no seventh", x.see(0, GOING), FULL);
        is("six", x.count(5), 6);
        is("the seventh is not SEEN", x.which(), 1022);
        writeAll(x, "L921111119");
        x.link();
        is("another TEXT leaves them", x.count(5), 6);
        is("by that they are not so", x.which(), 0);
        is("no seventh still", x.see(0, AWAKE), FULL);
        is("all six", x.unsee(), 6);
        is("room anew", x.see(0, AWAKE), 1);
    }

    private static void which() {
        Sentences.test("WHICH: COUNTS (bits 1 to 9) by which all that is SEEN is so.");
        String letters = "L121191113";
        for (int n = 1; n <= 9; n++) {
            String signs = letters + "a".repeat(n) + "1";
            int upTo = (1 << n + 1) - 2;
            is("up to " + n, seenSo(signs, 4, WAKING), upTo);
            is("beyond " + n, seenSo(signs, 4, ASLEEP), 1022 - upTo);
        }
        DozeLink x = told(letters + "aaa1aa1");
        x.see(4, ASLEEP);
        is("4 to 9", x.which(), 0b11_1111_0000);
        x.see(5, WAKING);
        is("4 and 5", x.which(), 0b11_0000);
        for (int i = 0; i < 3; i++) {
            x.see(0, AWAKE);
        }
        is("the same more than once", x.which(), 0b11_0000);
        is("the sixth", x.see(5, ASLEEP), 6);
        is("by the sixth none", x.which(), 0);
        DozeLink first = told(letters + "a");
        first.see(0, WAKING);
        for (int i = 0; i < 5; i++) {
            first.see(0, AWAKE);
        }
        is("by the first none", first.which(), 0);
    }

    // ---- shares

    private static void is(DozeLink x, int saver, int above, int below) {
        is("SHARE of " + saver + ", above", x.share(saver, true), above);
        is("SHARE of " + saver + ", below", x.share(saver, false), below);
    }

    private static void saversOfEnds() {
        Sentences.test("SAVERS are 0 and 1 (END 0, 1 holds LETTERS back: its COUNT, AGE as told; else it is DUE as soon as it HOLDS any)");
        // Held back by COUNT the LETTER waits for AGE: 88 in place of 69, where THE LINK may be GOING.
        DozeLink x = told("L121381119a");
        is(x, 0, -19, 2);
        is(x, 1, 0, 1);
        DozeLink y = told("L121111389b");
        is(y, 0, 0, 1);
        is(y, 1, -19, 2);
        is(told("L121181119a"), 0, 0, 1);
        is(told("L121911119a"), 0, 0, 1);
        is(told("L121921119a"), 0, -1, 2);
        is(told("L121111119aaaaaaaaa"), 0, 0, 1);
        is(told("L121991119aaaaaaaaa"), 0, 0, 1);
        is(told("L121991119"), 0, 0, 1);
        // By COUNT 2 both are SENT at once: 70 in place of 81.
        is(told("L191291119a4a"), 0, 11, 2);
    }

    private static void saverOfLink() {
        Sentences.test("and 2 (THE LINK may be GOING; else it stays AWAKE, and THE PLAY ends as soon as both HOLD none behind its EVENTS).");
        is(new DozeLink(), 2, -18, 1);
        is(told("L92111111"), 2, -90, 1);
        is(told("L12111111a"), 2, -9, 1);
        is(told("L12111111b"), 2, -9, 1);
        is(told("L12111111aaab"), 2, -9, 1);
        is(told("L12111111abbb"), 2, -9, 1);
        is(told("L121111111"), 2, -9, 1);
        is(told("L121111119"), 2, 81 - 37, 1);
        is(told("L12111111a9"), 2, 81 - 37, 1);
        is(told("L121111119a"), 2, 90 - 69, 1);
        is(told("L121111119aab"), 2, 99 - 78, 1);
        is(told("L12111111" + "a".repeat(20)), 2, 81 - 90, 1);
    }

    private static void share() {
        Sentences.test("SHARE of a SAVER: if SAVERS come one by one, in each order as likely: by how much less ENERGY of THE PLAY is in the"
                + " mean when it has come: a FRACTION.");
        String events = "9ab3ba2a4bb9ab5a";
        int all = told("L23234345" + events).play(1);
        int only0 = told("L23234315" + events).play(1);
        int only1 = told("L23214345" + events).play(1);
        int none = told("L23214315" + events).play(1);
        int awake = 9 * (9 + 3 + 2 + 4 + 9 + 5 + 1);
        DozeLink x = told("L23234345" + events);
        int[] sixfold = {(none - only0) + 2 * (only1 - all), (none - only1) + 2 * (only0 - all),
            2 * (awake - none) + (awake - only0) + (awake - only1) + 2 * (awake - all)};
        Due.holds("all four are others", all != only0 && all != only1 && all != none && only0 != only1);
        for (int saver = 0; saver <= 2; saver++) {
            int divisor = BigInteger.valueOf(sixfold[saver]).gcd(BigInteger.valueOf(6)).intValue();
            is(x, saver, sixfold[saver] / divisor, 6 / divisor);
        }
    }

    // ---- chances

    private static void luckIs(DozeLink y, int n, int v, int x, int above, int below) {
        is("luck " + n + ", " + v + ", " + x + ", above", y.luck(n, v, x, true), above);
        is("luck " + n + ", " + v + ", " + x + ", below", y.luck(n, v, x, false), below);
    }

    private static void luck() {
        Sentences.test("LUCK: each of the first n LETTERS (0 to 6) of THE PLAY (all, if there are fewer) does not come by x tenths (0 to"
                + " 10), by itself:");
        for (String letter : new String[] {"a", "b"}) {
            DozeLink one = told(ASLEEP_AT_9 + letter);
            int[][] tenths = {{0, 1}, {1, 10}, {1, 5}, {3, 10}, {2, 5}, {1, 2}, {3, 5}, {7, 10}, {4, 5}, {9, 10}, {1, 1}};
            for (int x = 0; x <= 10; x++) {
                luckIs(one, 1, 37, x, tenths[x][0], tenths[x][1]);
                luckIs(one, 0, 37, x, 0, 1);
                luckIs(one, 2, 37, x, tenths[x][0], tenths[x][1]);
                luckIs(one, 6, 37, x, tenths[x][0], tenths[x][1]);
            }
            DozeLink two = told(ASLEEP_AT_9 + letter + letter);
            luckIs(two, 1, 37, 5, 0, 1);
            luckIs(two, 1, 69, 5, 1, 2);
            luckIs(two, 2, 37, 5, 1, 4);
            luckIs(two, 2, 69, 5, 3, 4);
            luckIs(two, 2, 37, 1, 1, 100);
            luckIs(two, 2, 69, 1, 19, 100);
        }
        DozeLink six = told(ASLEEP_AT_9 + "aaaaaa");
        luckIs(six, 6, 37, 1, 1, 1000000);
        luckIs(six, 6, 113, 1, 468559, 1000000);
        luckIs(six, 5, 37, 10, 0, 1);
        DozeLink seven = told(ASLEEP_AT_9 + "aaaaaaa");
        luckIs(seven, 6, 68, 10, 0, 1);
        luckIs(seven, 6, 69, 10, 1, 1);
        luckIs(seven, 6, 122, 0, 0, 1);
        luckIs(seven, 6, 123, 0, 1, 1);
        // If one of the first does not come, the tenth is not LOST: nine are SENT in any case.
        DozeLink ten = told(ASLEEP_AT_9 + "aaaaaaaaaa");
        luckIs(ten, 1, 140, 5, 0, 1);
        luckIs(ten, 1, 141, 5, 1, 1);
        luckIs(ten, 2, 140, 5, 1, 4);
        luckIs(new DozeLink(), 6, 18, 10, 1, 1);
        String behindTheFirst = "1" + "a1".repeat(34);
        int without = energyOf("L12111111" + behindTheFirst);
        luckIs(told("L12111111a" + behindTheFirst), 1, without, 10, 1, 1);
        luckIs(told("L12111111a" + behindTheFirst), 1, without - 1, 10, 0, 1);
        for (int x : new int[] {-1, 11}) {
            is("no tenths " + x, ten.luck(0, 0, x, true), OUTSIDE);
        }
        is("no -1 LETTERS", ten.luck(-1, 0, 0, true), OUTSIDE);
        is("no 7 LETTERS", ten.luck(7, 0, 0, true), OUTSIDE);
    }

    private static void luckOrLess() {
        Sentences.test("that its ENERGY is v (0 to 9999) or less: a FRACTION.");
        DozeLink x = told(ASLEEP_AT_9 + "a");
        luckIs(x, 1, 0, 5, 0, 1);
        luckIs(x, 1, 36, 5, 0, 1);
        luckIs(x, 1, 37, 5, 1, 2);
        luckIs(x, 1, 38, 5, 1, 2);
        luckIs(x, 1, 68, 5, 1, 2);
        luckIs(x, 1, 69, 5, 1, 1);
        luckIs(x, 1, 9999, 5, 1, 1);
        is("no -1", x.luck(1, -1, 5, true), OUTSIDE);
        is("no 10000", x.luck(1, 10000, 5, true), OUTSIDE);
        // Held back by COUNT the LETTER waits for AGE: 88 in place of 69.
        for (String signs : new String[] {"L121381119a", "L121111389b"}) {
            luckIs(told(signs), 1, 87, 5, 1, 2);
            luckIs(told(signs), 1, 88, 5, 1, 1);
        }
        DozeLink longest = told("L99999999" + "a9".repeat(35));
        luckIs(longest, 6, 9999, 3, 1, 1);
        luckIs(longest, 6, 0, 3, 0, 1);
    }

    private static long next(long x) {
        return BigInteger.valueOf(x).multiply(new BigInteger("6364136223846793005")).add(new BigInteger("1442695040888963407"))
                .longValue();
    }

    private static void drawnTicks() {
        Sentences.test("DRAWN by THE SEED: m TICKS (1 to 60),");
        DozeLink x = new DozeLink();
        is("no 0", x.drawn(0), OUTSIDE);
        is("no 61", x.drawn(61), OUTSIDE);
        is("THE SEED is as it was", x.seed(5), 0);
        for (int m : new int[] {1, 2, 59, 60}) {
            long seed = 5;
            for (int i = 0; i < m; i++) {
                seed = next(seed);
            }
            Due.holds(m + " TICKS", x.drawn(m) >= 0);
            is("THE SEED behind " + m, x.seed(5), seed);
        }
        // No LETTER comes to ENDS that HOLD nine, but for those that are SENT: as many DELAYS as there are TICKS.
        DozeLink full = told("L12111111" + "a".repeat(9) + "b".repeat(9));
        full.seed(firstHits(new int[] {-1, -1, -1, -1}));
        is("1 TICK", full.drawn(1), 2);
        full.seed(firstHits(new int[] {-1, -1, -1, -1}));
        is("4 TICKS", full.drawn(4), 2 + 4 + 6 + 8);
    }

    private static void seedWraps() {
        Sentences.test("ahead of each x (THE SEED, a long; 0 at first) becomes x * 6364136223846793005L + 1442695040888963407L (64 bits,"
                + " wrapping);");
        is("0 at first", new DozeLink().seed(1), 0);
        DozeLink x = new DozeLink();
        x.drawn(1);
        is("from 0", x.seed(0), 1442695040888963407L);
        long[] seeds = {1, 2, -1, Long.MAX_VALUE, Long.MIN_VALUE, Long.MIN_VALUE + 1, 1L << 62, 1L << 32, -(1L << 32)};
        for (long seed : seeds) {
            x.seed(seed);
            x.drawn(1);
            is("from " + seed, x.seed(seed), next(seed));
            x.drawn(2);
            is("from " + seed + " twice", x.seed(0), next(next(seed)));
        }
    }

    private static int hit(long seed) {
        int v = (int) (seed >>> 33);
        return v / 2 % 4 == 0 ? v % 2 : -1;
    }

    /** A SEED by which LETTERS come ahead of the first TICKS just to these ENDS (-1: none comes). */
    private static long firstHits(int[] ends) {
        for (long seed = 0; seed < 1_000_000; seed++) {
            long x = seed;
            int fits = 0;
            for (int i = 0; i < ends.length && fits == i; i++) {
                x = next(x);
                fits += hit(x) == ends[i] ? 1 : 0;
            }
            if (fits == ends.length) {
                return seed;
            }
        }
        Due.holds("a SEED is found", false);
        return 0;
    }

    private static void drawnLetters() {
        Sentences.test("v is (int) (x >>> 33): if v / 2 % 4 is 0, a LETTER COMES to END v % 2 (if it HOLDS fewer than 9),");
        int[] found = new int[16];
        for (long seed = 0; seed < 400; seed++) {
            long x = next(seed);
            int eighth = (int) (x >>> 33) % 8;
            found[eighth + (x < 0 ? 8 : 0)]++;
            DozeLink one = told("L12111111a");
            one.seed(seed);
            long second = next(x);
            if (hit(second) < 0) {
                // Alone it is SENT with DELAY 1; behind it one of END 0 has 2, one of END 1 has 1.
                is("v " + eighth + " of eight", one.drawn(2), eighth == 0 ? 3 : eighth == 1 ? 2 : 1);
            }
        }
        for (int i = 0; i < found.length; i++) {
            Due.holds("each eighth, by x below 0, too: " + i, found[i] > 5);
        }
        int[] none = {-1, -1, -1, -1, -1, -1, -1, -1, -1};
        for (int end = 0; end <= 1; end++) {
            DozeLink asleep = told("L121991992");
            asleep.seed(firstHits(new int[] {end, -1, -1, -1, -1, -1, -1, -1, -1, -1, -1}));
            is("a plain one waits for AGE", asleep.drawn(10), 0);
            asleep.seed(firstHits(new int[] {end, -1, -1, -1, -1, -1, -1, -1, -1, -1, -1}));
            is("it came ahead of the first TICK", asleep.drawn(11), 11);
            DozeLink nine = new DozeLink();
            comeTo(nine, end, 9);
            nine.seed(firstHits(new int[] {end, -1, -1, -1, -1, -1, -1, -1, -1, -1}));
            is("no tenth", nine.drawn(10), 45);
            nine.seed(firstHits(new int[] {-1, end, -1, -1, -1, -1, -1, -1, -1, -1}));
            is("a ninth, when one was SENT", nine.drawn(10), 45 + 9);
            DozeLink eight = new DozeLink();
            comeTo(eight, end, 8);
            eight.seed(firstHits(new int[] {end, -1, -1, -1, -1, -1, -1, -1, -1}));
            is("a ninth at once", eight.drawn(9), 45);
            eight.seed(firstHits(none));
            is("none comes", eight.drawn(9), 36);
            DozeLink other = new DozeLink();
            comeTo(other, end, 9);
            other.seed(firstHits(new int[] {1 - end, -1, -1, -1, -1, -1, -1, -1, -1}));
            is("the other END has room", other.drawn(9), 45 + 1);
        }
    }

    private static void drawnDelays() {
        Sentences.test("from how all is now: DELAYS by which it is more behind them all. (Nothing changes but THE SEED.)");
        DozeLink x = told("L12111111aaa3");
        is("DELAYS ahead of it", x.ask(7), 6);
        x.tell(0, 1, 9);
        x.tell(0, 2, 9);
        x.pass(1);
        x.come(0);
        String before = looks(x);
        int[] none = {-1, -1, -1, -1, -1, -1, -1, -1, -1, -1, -1, -1};
        long seed = firstHits(none);
        // ASLEEP nine TICKS by AGE, WAKING one, SENT by the next with DELAY 11.
        x.seed(seed);
        is("not SENT yet", x.drawn(10), 0);
        x.seed(seed);
        is("SENT", x.drawn(11), 11);
        x.seed(seed);
        is("once", x.drawn(12), 11);
        Due.holds("nothing else has changed", looks(x).equals(before));
        is("ACTS", x.count(4), 4);
        is("THE SEED has", x.seed(seed) == seed ? 1 : 0, 0);
        is("THE PLAY", x.play(5), 3);
    }

    // ---- places to keep in

    private static void slots() {
        Sentences.test("SLOTS to keep in, 0 to 1, keep ENDS with all that they have and HOLD, THE LINK, THE CLOCK, all sums (THE ROW of"
                + " ACTS is empty when one goes on).");
        for (int slot = 0; slot <= 1; slot++) {
            DozeLink x = told("L23234345ab3aabbbbbbbbbbbbb2");
            x.tell(0, 0, 9);
            x.tell(1, 1, 2);
            String first = looks(x);
            is("keep", x.keep(slot), 5);
            x.tell(0, 1, 8);
            x.tell(0, 2, 8);
            x.pass(17);
            x.tell(1, 0, 8);
            x.come(0);
            String second = looks(x);
            is("keep in the other", x.keep(1 - slot), 22);
            is("keep leaves ACTS", x.count(4), 7);
            x.pass(20);
            is("again", x.again(slot), 5);
            Due.holds("all is as it was", looks(x).equals(first));
            is("no ACTS", x.count(4), 0);
            is("none to undo", x.undo(), STATE);
            is("again the other", x.again(1 - slot), 22);
            Due.holds("all is as it was then", looks(x).equals(second));
            is("no -1", x.keep(-1), UNKNOWN);
            is("no 2", x.keep(2), UNKNOWN);
            x.pass(1);
            is("it goes on", x.ask(4), 23);
            is("its ACT", x.undo(), 0);
            Due.holds("undone to what was kept", looks(x).equals(second));
        }
    }

    // ---- more plainly

    private static void awakeSends() {
        Sentences.test("a LETTER that comes to an END while THE LINK is AWAKE is SENT, when those ahead of it are, whatever COUNT is.");
        for (int count = 1; count <= 9; count++) {
            DozeLink x = told("L121" + count + "91" + count + "9");
            comeTo(x, 0, 3);
            x.come(1);
            is("not DUE by COUNT", x.end(0, 5), count <= 3 ? 1 : 0);
            for (int n = 1; n <= 3; n++) {
                x.pass(1);
                is("one by one", x.end(0, 4), 3 - n);
                is("of END 1", x.end(1, 4), 0);
            }
        }
    }

    private static void goingWaits() {
        Sentences.test("LETTERS that come while THE LINK is GOING wait till it has SLEPT a TICK at least.");
        for (int sink = 1; sink <= 9; sink++) {
            DozeLink x = told("L" + sink + "21111111");
            comeTo(x, 0, 9);
            x.tell(1, 0, 9);
            is("DUE", x.end(0, 5), 1);
            x.pass(sink);
            is("ASLEEP though DUE", x.ask(0), ASLEEP);
            is("it SLEPT none", x.ask(2), 0);
            is("none SENT", x.ask(6), 0);
            x.pass(1);
            is("WAKING when it SLEPT one", x.ask(0), WAKING);
            is("none SENT still", x.ask(6), 0);
        }
    }

    private static void wakeTimeAsItWakes() {
        Sentences.test("WAKE TIME is looked at as THE LINK becomes WAKING; what is TOLD later does not change LEFT.");
        DozeLink x = told("L123111112");
        x.come(1);
        x.pass(1);
        is("LEFT", x.ask(1), 3);
        x.tell(0, 0, 9);
        x.tell(1, 0, 8);
        is("LEFT is as it was", x.ask(1), 3);
        is("WAKE TIME is not", x.ask(3), 9);
        x.pass(1);
        is("1 less", x.ask(1), 2);
        x.pass(2);
        is("AWAKE in time", x.ask(0), AWAKE);
        DozeLink y = told("L123111112");
        y.come(1);
        y.tell(0, 0, 9);
        y.pass(1);
        is("TOLD just ahead", y.ask(1), 9);
        DozeLink z = told("L129111112");
        z.tell(0, 0, 1);
        z.pass(1);
        is("what END 1 HEARD still", z.ask(1), 9);
    }

    private static void ageByTheClock() {
        Sentences.test("\"came AGE TICKS ago or more\": THE CLOCK less the time when it came is AGE or more (in (3) of a TICK THE CLOCK is 1"
                + " more already).");
        for (int age = 1; age <= 9; age++) {
            DozeLink x = told("L1219" + age + "1112a");
            is("AHEAD one less", x.ahead(age - 1, 0), ASLEEP);
            is("AHEAD AGE", x.ahead(age, 0), WAKING);
            is("not DUE as it came", x.end(0, 5), 0);
            DozeLink late = told("L9219" + age + "1111a");
            late.pass(9);
            is("AGE or more, while it was GOING", late.end(0, 5), 1);
            is("ASLEEP", late.ask(0), ASLEEP);
            is("WAKING at once", late.ahead(1, 0), WAKING);
        }
    }

    private static void ticksGoOn() {
        Sentences.test("In QUIET, PRICE, SHARE, LUCK the TICKS to come are those of THE LINK as it goes on.");
        is("QUIET: LEFT goes on", told("L921111114").ask(10), 6);
        // SLEPT goes on, so that the TICK at 10 is a REFRESH, the eighth; the LETTER's AGE goes on from 9, not from its end.
        is("PRICE: SLEPT goes on", told("L121111119a").play(0), 37 + 5 + 27 + 3);
        is("PRICE: AGE goes on", told("L121931119a2").play(4), 9 + 3 + 3);
        is("PRICE: what is HEARD goes on", told("L125111119a").play(4), 9 + 1 + 5 + 2);
        is("SHARE", told("L121111119a").share(2, true), 90 - 69);
        luckIs(told("L121111119a"), 0, 69, 0, 1, 1);
        luckIs(told("L121111119a"), 0, 68, 0, 0, 1);
    }

    private static void awakeAllTheTime() {
        Sentences.test("Of SAVER 2 alone being away: THE LINK is AWAKE all the time, from its first TICK on.");
        // 9 a TICK from the first on, one TICK more for the LETTER.
        is(told("L999191119a"), 2, 90 - energyOf("L999191119a"), 1);
        is(told("L991111111"), 2, 9 - energyOf("L991111111"), 1);
        is(told("L992111119a9"), 2, 18 * 9 - energyOf("L992111119a9"), 1);
    }

    private static int energyOf(String signs) {
        return told(signs).play(1);
    }
}
