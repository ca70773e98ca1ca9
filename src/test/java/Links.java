/** Objects for tests, and looks at all that an object tells; tests extend it to call these by their plain names. */
abstract class Links {
    static final int UNKNOWN = DozeLink.UNKNOWN, OUTSIDE = DozeLink.OUTSIDE, STATE = DozeLink.STATE,
            FULL = DozeLink.FULL, NONE = DozeLink.NONE;
    static final int AWAKE = 0, GOING = 1, ASLEEP = 2, WAKING = 3;
    static final int LEAST = Integer.MIN_VALUE, MOST = Integer.MAX_VALUE;

    static void is(String what, long got, long want) {
        Due.is(what, got, want);
    }

    static DozeLink written(String signs) {
        DozeLink x = new DozeLink();
        writeAll(x, signs);
        return x;
    }

    static void writeAll(DozeLink x, String signs) {
        x.wipe();
        for (char sign : signs.toCharArray()) {
            x.write(sign);
        }
    }

    static DozeLink told(String signs) {
        DozeLink x = written(signs);
        Due.holds(signs + " is a LINK", x.link() >= 0);
        return x;
    }

    static void comeTo(DozeLink x, int end, int letters) {
        for (int i = 0; i < letters; i++) {
            x.come(end);
        }
    }

    /** What ask tells, but for QUIET. */
    static void asks(DozeLink x, int... due) {
        for (int what = 0; what < due.length; what++) {
            is("ask " + what, x.ask(what), due[what]);
        }
    }

    /** All that can be asked of an object without changing it, but for THE PLAY. */
    static String looks(DozeLink x) {
        StringBuilder all = new StringBuilder();
        for (int what = 0; what <= 10; what++) {
            all.append(x.ask(what)).append(' ');
        }
        for (int end = 0; end <= 1; end++) {
            for (int what = 0; what <= 5; what++) {
                all.append(x.end(end, what)).append(' ');
            }
            for (int i = 0; i < 9; i++) {
                all.append(x.held(end, i)).append(' ');
            }
        }
        for (int what = 0; what <= 2; what++) {
            all.append(x.count(what)).append(' ');
        }
        return all.toString();
    }

    /** All that can be asked, THE PLAY, what is SEEN and THE SEED among it; only what is kept does not show here. */
    static String everything(DozeLink x) {
        StringBuilder all = new StringBuilder(looks(x));
        all.append(x.fault()).append(' ').append(x.which()).append(' ');
        for (int what = 0; what <= 5; what++) {
            all.append(x.count(what)).append(' ').append(x.play(what)).append(' ');
        }
        for (int end = 0; end <= 1; end++) {
            all.append(x.end(end, 6)).append(' ').append(x.share(end, true)).append(' ');
        }
        long seed = x.seed(0);
        x.seed(seed);
        return all.append(seed).toString();
    }
}
