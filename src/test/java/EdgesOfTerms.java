import java.util.function.ToLongFunction;

/** The boundary cases of the document's terms, their first lines and part 1, sentence by sentence. */
final class EdgesOfTerms extends Links {
    private EdgesOfTerms() {
    }

    static void test() {
        calls();
        firstRefusal();
        refusedChangesNothing();
        none();
        fractions();
        refusalsOfFractions();
        places();
        sets();
        figuresOfEnds();
        holdsNine();
        letters();
        links();
        left();
        slept();
        sinkAndRefresh();
        atFirst();
        wakeTime();
        dueByCount();
        dueByWhatIsTold();
        dueByAge();
        energy();
        clock();
        awakeSends();
        awakeThenGoing();
        going();
        asleep();
        asleepThenWaking();
        waking();
        sent();
        heard();
        come();
        toldAnew();
        textOf80();
        linkIsText();
        noBlanks();
        heardByText();
        lost();
        fault();
        acts();
        actsOf14();
        refusedIsNoAct();
    }

    private static void calls() {
        Sentences.test("An object is used for at most 512 calls after it has been made; what later calls answer is free.");
        DozeLink x = new DozeLink();
        for (int call = 1; call <= 511; call++) {
            is("call " + call, x.pass(20), 20 * call);
        }
        // Two TICKS till it is ASLEEP, then a REFRESH every second one.
        is("the 512th call", x.ask(5), 18 + 10218 + 4 * 5109);
        DozeLink y = new DozeLink();
        for (int round = 0; round < 26; round++) {
            comeTo(y, 0, 9);
            comeTo(y, 1, 9);
            y.pass(20);
        }
        // First 1 to 9 of each END, then 3 to 11, since it must be woken.
        is("SENT", y.ask(6), 26 * 18);
        is("DELAYS", y.ask(7), 2 * 45 + 25 * 2 * 63);
        is("LONGEST", y.ask(8), 11);
    }

    // ---- refusals

    private static void firstRefusal() {
        Sentences.test("REFUSALS, of several the first that a call names (in just that row): UNKNOWN (there is no such END, SAVER,"
                + " place to keep in), OUTSIDE (another number is not as told), STATE (as told), FULL (as told).");
        DozeLink x = full();
        is("write: OUTSIDE, FULL", x.write(256), OUTSIDE);
        is("write: FULL", x.write(255), FULL);
        is("end: UNKNOWN, OUTSIDE", x.end(2, 7), UNKNOWN);
        is("end: OUTSIDE", x.end(1, 7), OUTSIDE);
        is("come: UNKNOWN, both FULL", x.come(2), UNKNOWN);
        is("come: FULL", x.come(1), FULL);
        is("tell: UNKNOWN, OUTSIDE by what and v", x.tell(2, 3, 0), UNKNOWN);
        is("tell: UNKNOWN, FULL", x.tell(-1, 0, 5), UNKNOWN);
        is("tell: OUTSIDE by what", x.tell(0, 3, 5), OUTSIDE);
        is("tell: OUTSIDE by v, FULL", x.tell(0, 0, 10), OUTSIDE);
        is("tell: FULL", x.tell(0, 0, 5), FULL);
        is("see: OUTSIDE by c, FULL", x.see(100, 0), OUTSIDE);
        is("see: OUTSIDE by s, FULL", x.see(0, 4), OUTSIDE);
        is("see: FULL", x.see(0, 3), FULL);
        is("again: UNKNOWN, nothing kept", x.again(2), UNKNOWN);
        is("again: STATE", x.again(1), STATE);
        for (int no : new int[] {LEAST, -1, 2, 3, MOST}) {
            is("no END to ask " + no, x.end(no, 0), UNKNOWN);
            is("no END that holds " + no, x.held(no, 0), UNKNOWN);
            is("no END to come to " + no, x.come(no), UNKNOWN);
            is("no END to tell of " + no, x.tell(no, 1, 1), UNKNOWN);
            is("no place to keep in " + no, x.keep(no), UNKNOWN);
            is("no place to go on from " + no, x.again(no), UNKNOWN);
        }
        for (int no : new int[] {LEAST, -1, 3, MOST}) {
            is("no SAVER " + no, x.share(no, true), UNKNOWN);
        }
    }

    /** A link in use: something is TOLD, written, held, done, SEEN, kept (in place 0) and seeded. */
    private static DozeLink inUse() {
        DozeLink x = told("L34234345aab2b");
        x.write('1');
        x.see(2, 1);
        x.see(5, 2);
        x.seed(77);
        x.keep(0);
        x.come(1);
        x.pass(2);
        x.tell(0, 0, 9);
        x.tell(1, 1, 3);
        return x;
    }

    /** All that can be full is; THE TEXT has a FAULT; in place 0 something is kept. */
    private static DozeLink full() {
        DozeLink x = told("L99199199aaaaaaaaabbbbbbbbb");
        writeAll(x, "L".repeat(80));
        for (int i = 0; i < 6; i++) {
            x.see(i, i % 4);
        }
        x.seed(-5);
        x.keep(0);
        return x;
    }

    private static void refusedChangesNothing() {
        Sentences.test("What is refused changes nothing.");
        refuseLink();
        refuseActs();
        refuseAsking();
        refuseChances();
        refuseFull();
        DozeLink x = new DozeLink();
        String before = everything(x);
        is("undo of none", x.undo(), STATE);
        is("link of none", x.link(), STATE);
        is("again of none", x.again(0), STATE);
        Due.holds("a new one stays as it was", everything(x).equals(before));
    }

    private static void refused(DozeLink x, String call, ToLongFunction<DozeLink> calls, int due) {
        String before = everything(x);
        is(call, calls.applyAsLong(x), due);
        Due.holds(call + " changes nothing", everything(x).equals(before));
        is(call + " keeps nothing", x.again(1), STATE);
        Due.holds(call + " leaves that something is kept", x.again(0) >= 0);
    }

    private static void refuse(String call, ToLongFunction<DozeLink> calls, int due) {
        DozeLink x = inUse();
        x.again(0);
        String kept = looks(x);
        DozeLink y = inUse();
        refused(y, call, calls, due);
        Due.holds(call + " leaves what is kept as it was", looks(y).equals(kept));
    }

    private static void refuseLink() {
        for (int sign : new int[] {LEAST, -1, 256, MOST}) {
            refuse("write " + sign, x -> x.write(sign), OUTSIDE);
        }
        for (int what : new int[] {LEAST, -1, 11, MOST}) {
            refuse("ask " + what, x -> x.ask(what), OUTSIDE);
            refuse("end 1, " + what, x -> x.end(1, what), OUTSIDE);
            refuse("count " + what, x -> x.count(what), OUTSIDE);
        }
        refuse("end 0, 7", x -> x.end(0, 7), OUTSIDE);
        refuse("end 2, 0", x -> x.end(2, 0), UNKNOWN);
        refuse("held 2, 0", x -> x.held(2, 0), UNKNOWN);
        refuse("held -1, 0", x -> x.held(-1, 0), UNKNOWN);
        refuse("count 6", x -> x.count(6), OUTSIDE);
    }

    private static void refuseActs() {
        for (int end : new int[] {LEAST, -1, 2, MOST}) {
            refuse("come " + end, x -> x.come(end), UNKNOWN);
            refuse("tell " + end, x -> x.tell(end, 0, 5), UNKNOWN);
        }
        for (int k : new int[] {LEAST, -1, 0, 21, MOST}) {
            refuse("pass " + k, x -> x.pass(k), OUTSIDE);
        }
        for (int what : new int[] {LEAST, -1, 3, MOST}) {
            refuse("tell 0, " + what, x -> x.tell(0, what, 5), OUTSIDE);
        }
        for (int what = 0; what <= 2; what++) {
            int told = what;
            for (int v : new int[] {LEAST, -1, 0, 10, MOST}) {
                refuse("tell 0, " + what + ", " + v, x -> x.tell(0, told, v), OUTSIDE);
                refuse("tell 1, " + what + ", " + v, x -> x.tell(1, told, v), OUTSIDE);
            }
        }
    }

    private static void refuseAsking() {
        refuse("ahead -1, 0", x -> x.ahead(-1, 0), OUTSIDE);
        refuse("ahead 100, 0", x -> x.ahead(100, 0), OUTSIDE);
        refuse("ahead 0, -1", x -> x.ahead(0, -1), OUTSIDE);
        refuse("ahead 0, 10", x -> x.ahead(0, 10), OUTSIDE);
        refuse("play -1", x -> x.play(-1), OUTSIDE);
        refuse("play 6", x -> x.play(6), OUTSIDE);
        refuse("judge 0", x -> x.judge(0, 0), OUTSIDE);
        refuse("judge 5", x -> x.judge(5, 100_100_100_100L), OUTSIDE);
        refuse("judge 1, -1", x -> x.judge(1, -1), OUTSIDE);
        refuse("judge 1, 1000", x -> x.judge(1, 1100), OUTSIDE);
        refuse("see -1, 0", x -> x.see(-1, 0), OUTSIDE);
        refuse("see 100, 0", x -> x.see(100, 0), OUTSIDE);
        refuse("see 0, -1", x -> x.see(0, -1), OUTSIDE);
        refuse("see 0, 4", x -> x.see(0, 4), OUTSIDE);
    }

    private static void refuseChances() {
        refuse("share -1", x -> x.share(-1, true), UNKNOWN);
        refuse("share 3", x -> x.share(3, false), UNKNOWN);
        refuse("luck -1, 0, 0", x -> x.luck(-1, 0, 0, true), OUTSIDE);
        refuse("luck 7, 0, 0", x -> x.luck(7, 0, 0, true), OUTSIDE);
        refuse("luck 0, -1, 0", x -> x.luck(0, -1, 0, true), OUTSIDE);
        refuse("luck 0, 10000, 0", x -> x.luck(0, 10000, 0, true), OUTSIDE);
        refuse("luck 0, 0, -1", x -> x.luck(0, 0, -1, false), OUTSIDE);
        refuse("luck 0, 0, 11", x -> x.luck(0, 0, 11, false), OUTSIDE);
        for (int m : new int[] {LEAST, -1, 0, 61, MOST}) {
            refuse("drawn " + m, x -> x.drawn(m), OUTSIDE);
        }
        for (int slot : new int[] {LEAST, -1, 2, MOST}) {
            refuse("keep " + slot, x -> x.keep(slot), UNKNOWN);
            refuse("again " + slot, x -> x.again(slot), UNKNOWN);
        }
        refuse("again 1", x -> x.again(1), STATE);
    }

    private static void refuseFull() {
        refused(full(), "write of the 81st", x -> x.write('a'), FULL);
        refused(full(), "come of the tenth", x -> x.come(0), FULL);
        refused(full(), "come of the tenth to END 1", x -> x.come(1), FULL);
        refused(full(), "tell of the tenth", x -> x.tell(0, 0, 5), FULL);
        refused(full(), "tell of the tenth of END 1", x -> x.tell(1, 0, 5), FULL);
        refused(full(), "see of the seventh", x -> x.see(1, 1), FULL);
        refused(full(), "link of a FAULT", x -> x.link(), STATE);
        refused(full(), "undo of none", x -> x.undo(), STATE);
    }

    // ---- fractions, places, sets

    private static void none() {
        Sentences.test("NONE is -9.");
        is("NONE", DozeLink.NONE, -9);
        is("no such LETTER", new DozeLink().held(0, 0), -9);
        is("no FAULT", written("L12111111").fault(), -9);
        is("nothing that can not be", new DozeLink().judge(1, 300), -9);
    }

    private static void fractions() {
        Sentences.test("FRACTIONS are told above (upper = true; less than 0, if they are), below, in least terms (0 is 0 above,"
                + " 1 below);");
        // Awake all the time 90; else 69, or 88 if END 0 holds back: 19 more in those three of six orders.
        DozeLink x = told("L121381119a");
        is("less than 0, above", x.share(0, true), -19);
        is("less than 0, below", x.share(0, false), 2);
        is("0, above", x.share(1, true), 0);
        is("0, below", x.share(1, false), 1);
        is("more than 0, above", x.share(2, true), 23);
        is("more than 0, below", x.share(2, false), 2);
        is("a whole one less than 0, above", new DozeLink().share(2, true), -18);
        is("a whole one less than 0, below", new DozeLink().share(2, false), 1);
        DozeLink y = told("L121111119a");
        is("4 of 10 in least terms, above", y.luck(1, 37, 4, true), 2);
        is("4 of 10 in least terms, below", y.luck(1, 37, 4, false), 5);
        is("3 of 10 in least terms, above", y.luck(1, 37, 3, true), 3);
        is("3 of 10 in least terms, below", y.luck(1, 37, 3, false), 10);
        is("0 of 10, above", y.luck(1, 37, 0, true), 0);
        is("0 of 10, below", y.luck(1, 37, 0, false), 1);
        is("10 of 10, above", y.luck(1, 37, 10, true), 1);
        is("10 of 10, below", y.luck(1, 37, 10, false), 1);
    }

    private static void refusalsOfFractions() {
        Sentences.test("refusals of them are told likewise.");
        DozeLink x = new DozeLink();
        for (boolean upper : new boolean[] {true, false}) {
            is("share -1", x.share(-1, upper), UNKNOWN);
            is("share 3", x.share(3, upper), UNKNOWN);
            is("luck -1", x.luck(-1, 0, 0, upper), OUTSIDE);
            is("luck 7", x.luck(7, 0, 0, upper), OUTSIDE);
            is("luck v -1", x.luck(0, -1, 0, upper), OUTSIDE);
            is("luck v 10000", x.luck(0, 10000, 0, upper), OUTSIDE);
            is("luck x -1", x.luck(0, 0, -1, upper), OUTSIDE);
            is("luck x 11", x.luck(0, 0, 11, upper), OUTSIDE);
        }
    }

    private static void places() {
        Sentences.test("Places of letters of THE TEXT and of doings (FAULT, JUDGED) are counted from 0 on.");
        is("the first letter", written("x").fault(), 0);
        is("the second letter", written("Lx").fault(), 1);
        is("the 80th letter", written("L12111111" + "a".repeat(70) + "x").fault(), 79);
        is("the first doing", new DozeLink().judge(4, 301_300_300_300L), 0);
        is("the second doing", new DozeLink().judge(4, 300_301_300_300L), 1);
        is("the fourth doing", new DozeLink().judge(4, 300_300_300_301L), 3);
    }

    private static void sets() {
        Sentences.test("Sets are told as bits.");
        DozeLink x = told("L121191113a1");
        is("all of 1 to 9", x.which(), 0b11_1111_1110);
        x.see(4, WAKING);
        is("1 alone", x.which(), 0b10);
        x.unsee();
        x.see(4, ASLEEP);
        is("all but 1", x.which(), 0b11_1111_1100);
        x.see(4, AWAKE);
        is("none", x.which(), 0);
    }

    // ---- ends

    private static void figuresOfEnds() {
        Sentences.test("ENDS are 0 and 1, each with its OWN wake time (1 to 9), a COUNT (1 to 9), an AGE (1 to 9), and what it HEARD"
                + " of the other END's OWN;");
        int[] places = {3, 4, 5};
        for (int end = 0; end <= 1; end++) {
            for (int what = 0; what <= 2; what++) {
                for (int v = 1; v <= 9; v++) {
                    StringBuilder signs = new StringBuilder("L12555555");
                    signs.setCharAt(places[what] + 3 * end, (char) ('0' + v));
                    DozeLink x = told(signs.toString());
                    is("by THE TEXT: " + end + ", " + what, x.end(end, what), v);
                    is("by THE TEXT: what the other END HEARD", x.end(1 - end, 3), what == 0 ? v : 5);
                    is("by THE TEXT: the other END", x.end(1 - end, what), 5);
                    DozeLink y = told("L12555555");
                    is("tell " + end + ", " + what + ", " + v, y.tell(end, what, v), 5);
                    is("told: " + end + ", " + what, y.end(end, what), v);
                    is("told: the other END", y.end(1 - end, what), 5);
                }
                DozeLink x = told("L12555555");
                is("no 0", x.tell(end, what, 0), OUTSIDE);
                is("no 10", x.tell(end, what, 10), OUTSIDE);
                is("as it was", x.end(end, what), 5);
            }
        }
        is("no END -1", new DozeLink().end(-1, 0), UNKNOWN);
        is("no END 2", new DozeLink().end(2, 0), UNKNOWN);
    }

    private static void holdsNine() {
        Sentences.test("it HOLDS LETTERS in a row (never more than 9; none at first).");
        for (int end = 0; end <= 1; end++) {
            DozeLink x = new DozeLink();
            is("none at first", x.end(end, 4), 0);
            is("no first LETTER at first", x.held(end, 0), NONE);
            for (int n = 1; n <= 8; n++) {
                is("come", x.come(end), n);
            }
            is("the ninth tells its OWN", x.tell(end, 0, 7), 1);
            is("nine", x.end(end, 4), 9);
            is("the ninth LETTER", x.held(end, 8), 7);
            is("no tenth by come", x.come(end), FULL);
            is("no tenth by tell", x.tell(end, 0, 3), FULL);
            is("no tenth by a doing", x.judge(1, 100 + 10 * end), 0);
            is("nine still", x.end(end, 4), 9);
            is("no tenth LETTER", x.held(end, 9), NONE);
            is("the other END has room", x.come(1 - end), 1);
            x.pass(1);
            is("room behind a TICK", x.come(end), 9);
            String letter = end == 0 ? "a" : "b";
            DozeLink y = told("L12111111" + letter.repeat(30));
            is("no tenth by EVENTS", y.end(end, 4), 9);
            is("the other END by EVENTS", y.end(1 - end, 4), 0);
        }
    }

    private static void letters() {
        Sentences.test("A LETTER is plain, or tells a wake time; it has the time of THE CLOCK when it came.");
        DozeLink x = told("L991991991");
        x.come(0);
        x.tell(0, 0, 1);
        x.tell(1, 0, 9);
        x.pass(3);
        x.come(1);
        is("plain", x.held(0, 0), 10);
        is("tells 1", x.held(0, 1), 11);
        is("tells 9", x.held(1, 0), 19);
        is("plain, later", x.held(1, 1), 40);
        DozeLink first = new DozeLink();
        first.come(0);
        first.tell(0, 0, 9);
        is("plain at 0", first.held(0, 0), 0);
        is("tells 9 at 0", first.held(0, 1), 9);
        DozeLink last = told("L99199199" + "9".repeat(70) + "a");
        is("by EVENTS, as late as can be", last.held(0, 0), 6300);
    }

    // ---- the link

    private static void links() {
        Sentences.test("THE LINK is AWAKE (0), GOING (1), ASLEEP (2) or WAKING (3);");
        DozeLink x = new DozeLink();
        is("AWAKE", x.ask(0), 0);
        x.pass(1);
        is("GOING", x.ask(0), 1);
        x.pass(1);
        is("ASLEEP", x.ask(0), 2);
        x.come(0);
        x.pass(1);
        is("WAKING", x.ask(0), 3);
        x.pass(1);
        is("AWAKE again", x.ask(0), 0);
    }

    private static void left() {
        Sentences.test("GOING and WAKING have so many TICKS LEFT;");
        DozeLink x = told("L94911111");
        is("AWAKE: none LEFT", x.ask(1), 0);
        for (int left = 9; left >= 1; left--) {
            x.pass(1);
            is("GOING", x.ask(0), GOING);
            is("LEFT", x.ask(1), left);
        }
        x.pass(1);
        is("ASLEEP", x.ask(0), ASLEEP);
        is("ASLEEP: none LEFT", x.ask(1), 0);
        x.come(0);
        for (int left = 9; left >= 1; left--) {
            x.pass(1);
            is("WAKING", x.ask(0), WAKING);
            is("LEFT", x.ask(1), left);
        }
        x.pass(1);
        is("AWAKE", x.ask(0), AWAKE);
        is("AWAKE: none LEFT", x.ask(1), 0);
    }

    private static void slept() {
        Sentences.test("ASLEEP has how many TICKS it SLEPT.");
        DozeLink x = new DozeLink();
        x.pass(1);
        is("GOING: 0", x.ask(2), 0);
        x.pass(1);
        for (int slept = 0; slept <= 40; slept++) {
            is("SLEPT", x.ask(2), slept);
            x.pass(1);
        }
        x.come(0);
        x.pass(1);
        is("WAKING: 0", x.ask(2), 0);
        x.pass(1);
        is("AWAKE: 0", x.ask(2), 0);
        x.pass(2);
        is("ASLEEP anew: 0", x.ask(2), 0);
        x.pass(1);
        is("ASLEEP anew: 1", x.ask(2), 1);
    }

    private static void sinkAndRefresh() {
        Sentences.test("There are SINK (1 to 9), REFRESH (2 to 9).");
        for (int sink = 1; sink <= 9; sink++) {
            DozeLink x = told("L" + sink + "2111111");
            is("SINK", x.count(1), sink);
            is("GOING at the last", x.ahead(sink, 0), GOING);
            is("ASLEEP behind it", x.ahead(sink + 1, 0), ASLEEP);
        }
        for (int refresh = 2; refresh <= 9; refresh++) {
            DozeLink x = told("L1" + refresh + "111111");
            is("REFRESH", x.count(2), refresh);
            for (int slept = 0; slept <= 40; slept++) {
                is("ENERGY behind " + slept, x.ahead(2 + slept, 5), 18 + slept + 4 * (slept / refresh));
            }
        }
        is("no SINK 0", written("L02111111").fault(), 1);
        is("no SINK beyond 9", written("L:2111111").fault(), 1);
        is("no REFRESH 0", written("L10111111").fault(), 2);
        is("no REFRESH 1", written("L11111111").fault(), 2);
        is("no REFRESH beyond 9", written("L1:111111").fault(), 2);
    }

    private static void atFirst() {
        Sentences.test("(At first all that is told by a figure is 1, REFRESH 2; THE LINK is AWAKE, THE CLOCK and all sums are 0.)");
        DozeLink x = new DozeLink();
        asks(x, AWAKE, 0, 0, 1, 0, 0, 0, 0, 0, 0);
        for (int end = 0; end <= 1; end++) {
            is("OWN", x.end(end, 0), 1);
            is("COUNT", x.end(end, 1), 1);
            is("AGE", x.end(end, 2), 1);
            is("HEARD", x.end(end, 3), 1);
        }
        is("SINK", x.count(1), 1);
        is("REFRESH", x.count(2), 2);
    }

    private static void wakeTime() {
        Sentences.test("WAKE TIME: the greatest of both OWN and what both HEARD.");
        is("OWN of END 0, HEARD by END 1", told("L12911111").ask(3), 9);
        is("OWN of END 1, HEARD by END 0", told("L12111911").ask(3), 9);
        is("all alike", told("L12411411").ask(3), 4);
        DozeLink own0 = told("L12111111");
        own0.tell(0, 0, 9);
        is("OWN of END 0 alone", own0.ask(3), 9);
        DozeLink own1 = told("L12111111");
        own1.tell(1, 0, 9);
        is("OWN of END 1 alone", own1.ask(3), 9);
        DozeLink heard1 = told("L12911111");
        heard1.tell(0, 0, 1);
        is("HEARD by END 1 alone", heard1.ask(3), 9);
        heard1.pass(1);
        is("HEARD anew by END 1", heard1.ask(3), 1);
        DozeLink heard0 = told("L12111911");
        heard0.tell(1, 0, 1);
        is("HEARD by END 0 alone", heard0.ask(3), 9);
        heard0.pass(1);
        is("HEARD anew by END 0", heard0.ask(3), 1);
    }

    // ---- due

    private static void dueByCount() {
        Sentences.test("An END is DUE, if it HOLDS COUNT LETTERS or more,");
        for (int end = 0; end <= 1; end++) {
            for (int count = 1; count <= 9; count++) {
                DozeLink x = told("L121191192");
                x.tell(end, 1, count);
                is("none held", x.end(end, 5), 0);
                comeTo(x, end, count - 1);
                is("one less than COUNT", x.end(end, 5), 0);
                is("not woken", x.ahead(1, 0), ASLEEP);
                x.come(end);
                is("COUNT", x.end(end, 5), 1);
                is("the other END", x.end(1 - end, 5), 0);
                is("woken", x.ahead(1, 0), WAKING);
                if (count < 9) {
                    x.come(end);
                    is("one more than COUNT", x.end(end, 5), 1);
                }
                if (count > 1) {
                    x.tell(end, 1, 1);
                    is("many more than COUNT", x.end(end, 5), 1);
                }
            }
        }
    }

    private static void dueByWhatIsTold() {
        Sentences.test("or any that tells a wake time,");
        for (int end = 0; end <= 1; end++) {
            DozeLink x = told("L121991992");
            x.come(end);
            is("a plain one", x.end(end, 5), 0);
            x.tell(end, 0, 1);
            is("one that tells, though the same, behind a plain one", x.end(end, 5), 1);
            is("the other END", x.end(1 - end, 5), 0);
            x.come(end);
            is("one that tells between plain ones", x.end(end, 5), 1);
            is("woken", x.ahead(1, 0), WAKING);
            x.tell(1 - end, 1, 1);
            is("the other END, holding none", x.end(1 - end, 5), 0);
        }
    }

    private static void dueByAge() {
        Sentences.test("or any that came AGE TICKS ago or more.");
        for (int end = 0; end <= 1; end++) {
            for (int age = 1; age <= 9; age++) {
                DozeLink x = told("L121991992");
                x.tell(end, 2, age);
                x.come(end);
                for (int k = 1; k < age; k++) {
                    x.pass(1);
                    is("not so long ago", x.end(end, 5), 0);
                    is("ASLEEP", x.ask(0), ASLEEP);
                    x.come(1 - end);
                    x.come(end);
                    is("one that came later", x.end(end, 5), 0);
                    x.undo();
                    x.undo();
                }
                x.pass(1);
                is("AGE TICKS ago", x.end(end, 5), 1);
                is("WAKING", x.ask(0), WAKING);
                x.pass(1);
                is("more than AGE", x.ask(0) == AWAKE ? x.end(end, 5) : 0, 1);
                x.come(end);
                is("any of them", x.end(end, 5), 1);
            }
        }
    }

    // ---- a tick

    private static void energy() {
        Sentences.test("(1) ENERGY is more by 9 (AWAKE, GOING, WAKING), by 1 (ASLEEP), by 5 instead of 1, if it is a REFRESH: SLEPT and"
                + " 1 can be divided by REFRESH.");
        DozeLink x = told("L23211111");
        // AWAKE, GOING twice, ASLEEP five times (the third is a REFRESH), the last one woken.
        int[] more = {9, 9, 9, 1, 1, 5, 1};
        int sum = 0;
        for (int k = 0; k < more.length; k++) {
            x.pass(1);
            sum += more[k];
            is("ENERGY, TICK " + (k + 1), x.ask(5), sum);
        }
        x.come(0);
        // ASLEEP once more, WAKING twice, AWAKE, GOING twice, ASLEEP anew: a REFRESH is the third TICK again.
        int[] later = {1, 9, 9, 9, 9, 9, 1, 1, 5};
        for (int k = 0; k < later.length; k++) {
            x.pass(1);
            sum += later[k];
            is("ENERGY, TICK " + (8 + k), x.ask(5), sum);
        }
        DozeLink y = told("L121111113");
        y.come(0);
        y.pass(1);
        is("a REFRESH that wakes", y.ask(5), 18 + 1 + 5);
        is("WAKING", y.ask(0), WAKING);
    }

    private static void clock() {
        Sentences.test("(2) THE CLOCK is 1 more.");
        DozeLink x = told("L23211111");
        for (int k = 1; k <= 20; k++) {
            is("pass 1", x.pass(1), k);
            is("THE CLOCK", x.ask(4), k);
        }
    }

    private static void awakeSends() {
        Sentences.test("AWAKE: END 0, then END 1 SENDS the first LETTER that it HOLDS, if there is any.");
        DozeLink x = told("L12199199aaabb");
        x.pass(1);
        is("one of each", x.ask(6), 2);
        is("END 0", x.end(0, 4), 2);
        is("END 1", x.end(1, 4), 1);
        x.pass(1);
        is("one more of each", x.ask(6), 4);
        x.pass(1);
        is("END 1 HOLDS none", x.ask(6), 5);
        DozeLink y = told("L12199199b");
        y.pass(1);
        is("END 0 HOLDS none", y.ask(6), 1);
        DozeLink z = new DozeLink();
        z.pass(1);
        is("both HOLD none", z.ask(6), 0);
        DozeLink first = told("L12199199");
        first.come(1);
        first.tell(1, 0, 8);
        first.pass(1);
        is("the first one", first.held(1, 0), 8);
        is("no other one", first.held(1, 1), NONE);
    }

    private static void awakeThenGoing() {
        Sentences.test("If then both HOLD none, THE LINK is GOING, SINK LEFT.");
        DozeLink x = told("L72111111aab");
        x.pass(1);
        is("END 0 HOLDS one", x.ask(0), AWAKE);
        x.pass(1);
        is("both HOLD none", x.ask(0), GOING);
        is("LEFT", x.ask(1), 7);
        DozeLink y = told("L72111111abb");
        y.pass(1);
        is("END 1 HOLDS one", y.ask(0), AWAKE);
        y.pass(1);
        is("both HOLD none", y.ask(0), GOING);
        DozeLink z = told("L92111111");
        z.pass(1);
        is("none ever held", z.ask(0), GOING);
        is("LEFT", z.ask(1), 9);
    }

    private static void going() {
        Sentences.test("GOING: LEFT is 1 less; if it is 0 then, THE LINK is ASLEEP, SLEPT 0.");
        DozeLink x = told("L221111111");
        is("LEFT", x.ask(1), 2);
        x.pass(1);
        is("1 less", x.ask(1), 1);
        is("GOING still", x.ask(0), GOING);
        x.pass(1);
        is("ASLEEP", x.ask(0), ASLEEP);
        is("SLEPT", x.ask(2), 0);
        DozeLink y = told("L121111111");
        is("LEFT is 1", y.ask(1), 1);
        y.pass(1);
        is("ASLEEP by SINK 1", y.ask(0), ASLEEP);
    }

    private static void asleep() {
        Sentences.test("ASLEEP: SLEPT is 1 more.");
        DozeLink x = told("L121111112");
        is("SLEPT", x.ask(2), 0);
        x.pass(1);
        is("1 more", x.ask(2), 1);
        x.pass(20);
        is("20 more", x.ask(2), 21);
        is("ASLEEP as long as none is DUE", x.ask(0), ASLEEP);
    }

    private static void asleepThenWaking() {
        Sentences.test("If an END is DUE, THE LINK is WAKING, WAKE TIME LEFT.");
        for (int wake = 1; wake <= 9; wake++) {
            DozeLink x = told("L12" + wake + "211112");
            x.come(0);
            x.tell(0, 2, 9);
            x.pass(1);
            is("END 0 HOLDS one of two", x.ask(0), ASLEEP);
            x.come(0);
            x.pass(1);
            is("END 0 is DUE", x.ask(0), WAKING);
            is("LEFT", x.ask(1), wake);
            DozeLink y = told("L12" + wake + "211112");
            y.come(1);
            y.pass(1);
            is("END 1 is DUE", y.ask(0), WAKING);
            DozeLink z = told("L12" + wake + "111112");
            z.come(0);
            z.come(1);
            z.pass(1);
            is("both are DUE", z.ask(0), WAKING);
            is("LEFT, once", z.ask(1), wake);
        }
    }

    private static void waking() {
        Sentences.test("WAKING: LEFT is 1 less; if it is 0 then, THE LINK is AWAKE.");
        DozeLink x = told("L122111112a1");
        is("LEFT", x.ask(1), 2);
        x.pass(1);
        is("1 less", x.ask(1), 1);
        is("WAKING still", x.ask(0), WAKING);
        x.pass(1);
        is("AWAKE", x.ask(0), AWAKE);
        is("none SENT by that TICK", x.ask(6), 0);
        x.pass(1);
        is("SENT by the next", x.ask(6), 1);
        DozeLink y = told("L121111112a1");
        is("LEFT is 1", y.ask(1), 1);
        y.pass(1);
        is("AWAKE by WAKE TIME 1", y.ask(0), AWAKE);
    }

    private static void sent() {
        Sentences.test("SENT: a LETTER is held no more; its DELAY is THE CLOCK less the time when it came; SENT is 1 more, DELAYS more by"
                + " it, LONGEST the greatest of all.");
        DozeLink x = told("L12111111aaaa");
        int[] delays = {1, 3, 6, 10};
        for (int n = 1; n <= 4; n++) {
            x.pass(1);
            is("SENT", x.ask(6), n);
            is("held no more", x.end(0, 4), 4 - n);
            is("DELAYS", x.ask(7), delays[n - 1]);
            is("LONGEST", x.ask(8), n);
        }
        x.pass(1);
        x.come(1);
        x.pass(3);
        is("SENT", x.ask(6), 5);
        is("DELAYS", x.ask(7), 13);
        is("LONGEST is that of an earlier one", x.ask(8), 4);
        DozeLink y = told("L12111111aaab");
        y.pass(1);
        is("both by one TICK", y.ask(7), 2);
    }

    private static void heard() {
        Sentences.test("If it tells a wake time, the other END HEARD that.");
        for (int end = 0; end <= 1; end++) {
            DozeLink x = told("L12511511");
            x.tell(end, 0, 9);
            is("not till it is SENT", x.end(1 - end, 3), 5);
            x.pass(1);
            is("the other END HEARD", x.end(1 - end, 3), 9);
            is("not the END itself", x.end(end, 3), 5);
            DozeLink y = told("L12511511");
            y.tell(end, 0, 1);
            y.pass(1);
            is("less is HEARD, too", y.end(1 - end, 3), 1);
            y.come(end);
            y.pass(20);
            is("a plain one tells nothing", y.end(1 - end, 3), 1);
            is("it was SENT", y.ask(6), 2);
        }
        DozeLink z = told("L12511511");
        z.tell(0, 0, 2);
        z.tell(0, 0, 7);
        z.pass(1);
        is("the first of two", z.end(1, 3), 2);
        z.pass(1);
        is("the second of two", z.end(1, 3), 7);
        for (int time = 1; time <= 9; time++) {
            DozeLink later = told("L12111111" + time);
            later.tell(1, 0, 9);
            later.pass(20);
            is("later", later.end(0, 3), 9);
        }
    }

    private static void come() {
        Sentences.test("COME: a plain LETTER comes to an END, behind all that it HOLDS.");
        DozeLink x = told("L921111111");
        x.tell(1, 0, 6);
        x.come(1);
        x.pass(2);
        is("come", x.come(1), 3);
        is("the first", x.held(1, 0), 16);
        is("behind it", x.held(1, 1), 10);
        is("behind both", x.held(1, 2), 30);
        is("to that END alone", x.end(0, 4), 0);
    }

    private static void toldAnew() {
        Sentences.test("TOLD: COUNT or AGE of an END is told anew; or its OWN: then a LETTER that tells it comes to that END, too.");
        for (int end = 0; end <= 1; end++) {
            DozeLink x = new DozeLink();
            is("COUNT", x.tell(end, 1, 9), 1);
            is("AGE", x.tell(end, 2, 8), 1);
            is("no LETTER by these", x.end(end, 4), 0);
            is("OWN", x.tell(end, 0, 7), 1);
            is("a LETTER by OWN", x.held(end, 0), 7);
            is("no other one", x.end(end, 4), 1);
            is("none to the other END", x.end(1 - end, 4), 0);
            is("OWN, the same anew", x.tell(end, 0, 7), 7);
            is("a LETTER by the same, too", x.held(end, 1), 7);
            is("COUNT as told", x.end(end, 1), 9);
            is("AGE as told", x.end(end, 2), 8);
            is("OWN as told", x.end(end, 0), 7);
        }
    }

    // ---- the text

    private static void textOf80() {
        Sentences.test("THE TEXT is letters (never more than 80).");
        DozeLink x = written("L12111111" + "a".repeat(70));
        is("79 letters", x.count(0), 79);
        is("the 80th", x.write('9'), 80);
        is("no 81st", x.write('a'), FULL);
        is("80 letters", x.count(0), 80);
        is("80 letters are a LINK", x.link(), 9);
        is("71 EVENTS", x.count(3), 71);
        is("LETTERS of them", x.play(5), 70);
    }

    private static void linkIsText() {
        Sentences.test("A LINK is a TEXT: L, SINK (1 to 9), REFRESH (2 to 9), of END 0, then of END 1 OWN, COUNT, AGE (1 to 9 each), then"
                + " EVENTS, none or more: a (a LETTER COMES to END 0), b (to END 1), a figure 1 to 9 (so many TICKS).");
        String head = "L55555555";
        for (int place = 0; place <= 12; place++) {
            String ahead = (head + "a1b").substring(0, place);
            for (int sign = 0; sign <= 255; sign++) {
                boolean figure = place > 0 && sign >= (place == 2 ? '2' : '1') && sign <= '9';
                boolean letter = place >= 9 && (sign == 'a' || sign == 'b');
                boolean may = place == 0 ? sign == 'L' : figure || letter;
                int end = place < 8 ? place + 1 : NONE;
                is(ahead + " and sign " + sign, written(ahead + (char) sign).fault(), may ? end : place);
            }
        }
        is("no EVENTS", written(head).link(), 0);
        is("71 EVENTS", written(head + "1".repeat(71)).link(), 71);
        is("a", told(head + "a").end(0, 4), 1);
        is("a is not b", told(head + "a").end(1, 4), 0);
        is("b", told(head + "b").end(1, 4), 1);
        is("b is not a", told(head + "b").end(0, 4), 0);
        for (int k = 1; k <= 9; k++) {
            is("so many TICKS", told(head + k).ask(4), k);
        }
        DozeLink x = told("L12345678");
        int[] figures = {x.count(1), x.count(2), x.end(0, 0), x.end(0, 1), x.end(0, 2), x.end(1, 0), x.end(1, 1), x.end(1, 2)};
        for (int i = 0; i < figures.length; i++) {
            is("figure " + (i + 1), figures[i], i + 1);
        }
    }

    private static void noBlanks() {
        Sentences.test("(Without blanks.");
        String signs = "L12111111a1";
        for (int place = 0; place <= signs.length(); place++) {
            for (char blank : new char[] {' ', '\t', '\n', 160}) {
                DozeLink x = written(signs.substring(0, place) + blank + signs.substring(place));
                is("a blank at " + place, x.fault(), place);
                is("no LINK", x.link(), STATE);
            }
        }
    }

    private static void heardByText() {
        Sentences.test("Each END HEARD the other one's OWN as it is told here.)");
        DozeLink x = told("L12311811");
        is("END 0 HEARD", x.end(0, 3), 8);
        is("END 1 HEARD", x.end(1, 3), 3);
        x.tell(0, 0, 9);
        x.pass(20);
        writeAll(x, "L12111211");
        x.link();
        is("END 0 HEARD by another TEXT", x.end(0, 3), 2);
        is("END 1 HEARD by another TEXT", x.end(1, 3), 1);
    }

    private static void lost() {
        Sentences.test("A LETTER of EVENTS that would be the tenth that an END HOLDS is LOST.");
        for (int end = 0; end <= 1; end++) {
            String letter = end == 0 ? "a" : "b";
            String other = end == 0 ? "b" : "a";
            String nine = "L12111111" + letter.repeat(9);
            is("the ninth is not", told(nine).ask(9), 0);
            is("the tenth is", told(nine + letter).ask(9), 1);
            is("the eleventh, too", told(nine + letter + letter).ask(9), 2);
            is("nine are held", told(nine + letter + letter).end(end, 4), 9);
            is("one to the other END is not", told(nine + other).ask(9), 0);
            is("both ENDS lose", told(nine + other.repeat(10) + letter).ask(9), 2);
            is("the tenth to come, not to be held", told(nine + "1" + letter).ask(9), 0);
            is("it is held", told(nine + "1" + letter).held(end, 8), 10);
            is("the tenth behind that is", told(nine + "1" + letter + letter).ask(9), 1);
        }
    }

    private static void fault() {
        Sentences.test("FAULT: the place of the first letter by which THE TEXT can be no LINK, whatever came behind it (its length set"
                + " aside); its length, if it is only not at its end; NONE: none.");
        String head = "L12111111";
        for (int length = 0; length < 9; length++) {
            is("not at its end", written(head.substring(0, length)).fault(), length);
            is("a wrong letter behind", written(head.substring(0, length) + "x").fault(), length);
            is("the first of two wrong ones", written(head.substring(0, length) + "x!").fault(), length);
            is("good ones behind a wrong one", written(head.substring(0, length) + "x" + head.substring(length)).fault(), length);
        }
        is("at its end", written(head).fault(), NONE);
        is("80 letters", written(head + "b".repeat(71)).fault(), NONE);
        is("80 letters, the last one wrong", written(head + "b".repeat(70) + "c").fault(), 79);
        is("80 letters, the first one wrong", written("l12111111" + "b".repeat(71)).fault(), 0);
    }

    // ---- acts

    private static void acts() {
        Sentences.test("ACTS (COME; TICKS passed, 1 to 20; COUNT, AGE, OWN TOLD)");
        DozeLink x = new DozeLink();
        x.come(0);
        is("COME", x.count(4), 1);
        x.pass(1);
        is("1 TICK", x.count(4), 2);
        x.pass(20);
        is("20 TICKS", x.count(4), 3);
        x.tell(0, 1, 5);
        is("COUNT TOLD", x.count(4), 4);
        x.tell(1, 2, 5);
        is("AGE TOLD", x.count(4), 5);
        x.tell(1, 0, 5);
        is("OWN TOLD", x.count(4), 6);
        x.tell(0, 1, 5);
        is("the same TOLD", x.count(4), 7);
        x.see(1, 1);
        x.seed(9);
        x.drawn(9);
        x.keep(0);
        x.write('L');
        x.judge(1, 100);
        is("no others", x.count(4), 7);
        is("the last one is undone first", x.undo(), 6);
        is("the same TOLD is undone", x.end(0, 1), 5);
        x.undo();
        is("OWN is undone", x.end(1, 0), 1);
    }

    private static void actsOf14() {
        Sentences.test("are a row (never more than 14; if it has 14, the first one is forgotten ahead of the next); the last one can be"
                + " undone.");
        DozeLink x = new DozeLink();
        for (int n = 1; n <= 14; n++) {
            x.pass(n);
            is("ACTS", x.count(4), n);
        }
        DozeLink y = new DozeLink();
        for (int n = 1; n <= 15; n++) {
            y.pass(n);
        }
        is("15 are 14", y.count(4), 14);
        for (int n = 13; n >= 0; n--) {
            is("undo of 14", x.undo(), n);
            is("one by one", x.ask(4), n * (n + 1) / 2);
            is("undo of 15", y.undo(), n);
            is("one by one, but for the first of 15", y.ask(4), (n + 1) * (n + 2) / 2);
        }
        is("no 15th of 14", x.undo(), STATE);
        is("no 15th of 15", y.undo(), STATE);
        is("THE CLOCK stays", y.ask(4), 1);
    }

    private static void refusedIsNoAct() {
        Sentences.test("Each that is not refused is an ACT.");
        DozeLink x = new DozeLink();
        comeTo(x, 0, 9);
        is("nine", x.count(4), 9);
        x.come(0);
        x.come(2);
        x.pass(0);
        x.pass(21);
        x.tell(0, 0, 5);
        x.tell(0, 1, 10);
        x.tell(2, 1, 1);
        is("what is refused is none", x.count(4), 9);
        is("undo", x.undo(), 8);
        is("the last that was not refused is undone", x.end(0, 4), 8);
        for (int i = 0; i < 6; i++) {
            x.pass(1);
        }
        x.pass(0);
        is("14", x.count(4), 14);
        for (int i = 0; i < 14; i++) {
            x.undo();
        }
        is("what is refused makes none be forgotten", x.end(0, 4), 0);
    }
}
