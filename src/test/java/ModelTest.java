import java.util.Random;

/** Runs of up to 512 calls by fixed seeds: the class answers as the model does. */
public final class ModelTest {
    private static final int RUNS = 300, CALLS = 512;

    private final Random random;
    private final DozeLink x = new DozeLink();
    private final Model model = new Model();
    private final int run;
    private int calls = 0;
    /** How a run leans: texts of many letters, or a link that is mostly acted on. */
    private final int lean;

    private ModelTest(int run) {
        this.run = run;
        random = new Random(1000L + run);
        lean = run % 3;
    }

    public static void main(String[] args) {
        for (int run = 0; run < RUNS; run++) {
            ModelTest test = new ModelTest(run);
            while (test.calls < CALLS) {
                test.step();
            }
        }
        Due.finish("ModelTest");
    }

    private void same(String call, long got, long want) {
        calls++;
        // What later calls answer is free.
        if (calls <= CALLS) {
            Due.is("run " + run + ", call " + calls + ": " + call, got, want);
        }
    }

    private int upTo(int most) {
        return random.nextInt(most + 1);
    }

    /** Mostly a number from least to most, at times one just or far outside. */
    private int around(int least, int most) {
        return switch (random.nextInt(40)) {
            case 0 -> least - 1;
            case 1 -> most + 1;
            case 2 -> random.nextInt();
            case 3 -> Integer.MIN_VALUE;
            case 4 -> Integer.MAX_VALUE;
            default -> least + upTo(most - least);
        };
    }

    private void step() {
        int kind = random.nextInt(100);
        if (kind < (lean == 0 ? 4 : 1)) {
            tellText();
        } else if (kind < 30) {
            act();
        } else if (kind < 60) {
            look();
        } else if (kind < 90) {
            askMore();
        } else {
            rest();
        }
    }

    private void tellText() {
        if (upTo(8) > 0) {
            same("wipe", x.wipe(), model.wipe());
        }
        StringBuilder signs = new StringBuilder("L");
        signs.append(1 + upTo(8)).append(2 + upTo(7));
        for (int i = 0; i < 6; i++) {
            signs.append(1 + (upTo(2) == 0 ? 8 : upTo(8)));
        }
        int n = upTo(3) == 0 ? upTo(75) : upTo(20);
        String kinds = upTo(1) == 0 ? "ab123456789" : "aaaabbb1239";
        for (int i = 0; i < n; i++) {
            signs.append(kinds.charAt(upTo(kinds.length() - 1)));
        }
        if (upTo(9) == 0) {
            signs.setCharAt(upTo(signs.length() - 1), (char) upTo(255));
        }
        for (int i = 0; i < signs.length(); i++) {
            same("write", x.write(signs.charAt(i)), model.write(signs.charAt(i)));
            if (upTo(20) == 0) {
                same("fault", x.fault(), model.fault());
            }
        }
        same("fault", x.fault(), model.fault());
        same("link", x.link(), model.link());
    }

    private void act() {
        int end = around(0, 1);
        switch (random.nextInt(lean == 1 ? 12 : 8)) {
            case 0, 1 -> {
                int k = upTo(1) == 0 ? around(1, 20) : 1;
                same("pass " + k, x.pass(k), model.pass(k));
            }
            case 2, 3 -> {
                int what = around(0, 2);
                int v = around(1, 9);
                same("tell " + end + ", " + what + ", " + v, x.tell(end, what, v), model.tell(end, what, v));
            }
            case 4 -> {
                int n = upTo(3) == 0 ? 16 : 1 + upTo(2);
                for (int i = 0; i < n; i++) {
                    same("undo", x.undo(), model.undo());
                }
            }
            default -> same("come " + end, x.come(end), model.come(end));
        }
    }

    private void look() {
        int what = around(0, 10);
        same("ask " + what, x.ask(what), model.ask(what));
        int end = around(0, 1);
        int ofEnd = around(0, 6);
        same("end " + end + ", " + ofEnd, x.end(end, ofEnd), model.end(end, ofEnd));
        int i = around(0, 9);
        same("held " + end + ", " + i, x.held(end, i), model.held(end, i));
        int k = around(0, 99);
        int ahead = around(0, 9);
        same("ahead " + k + ", " + ahead, x.ahead(k, ahead), model.ahead(k, ahead));
    }

    private void askMore() {
        switch (random.nextInt(7)) {
            case 0 -> {
                int what = around(0, 5);
                same("play " + what, x.play(what), model.play(what));
            }
            case 1 -> {
                int c = upTo(1) == 0 ? around(0, 99) : around(0, 25);
                // Mostly what is so by some COUNT, else hardly any would be left.
                boolean fits = c >= 0 && c <= 99 && upTo(4) > 0;
                int s = fits ? model.linkAt(c, 1 + upTo(8)) : around(0, 3);
                same("see " + c + ", " + s, x.see(c, s), model.see(c, s));
                same("which", x.which(), model.which());
                if (x.which() == 0 || upTo(5) == 0) {
                    calls++;
                    same("unsee", x.unsee(), model.unsee());
                }
            }
            case 2 -> {
                int saver = around(0, 2);
                same("share " + saver, x.share(saver, true), model.share(saver, true));
                same("share " + saver + ", below", x.share(saver, false), model.share(saver, false));
            }
            case 3 -> {
                int n = around(0, 6);
                int v = upTo(2) == 0 ? around(0, 9999) : model.play(1) - 40 + upTo(50);
                int tenths = around(0, 10);
                String call = "luck " + n + ", " + v + ", " + tenths;
                same(call, x.luck(n, v, tenths, true), model.luck(n, v, tenths, true));
                same(call + ", below", x.luck(n, v, tenths, false), model.luck(n, v, tenths, false));
            }
            case 4 -> {
                long v = random.nextLong();
                same("seed", x.seed(v), model.seed(v));
            }
            case 5 -> {
                int m = around(1, 60);
                same("drawn " + m, x.drawn(m), model.drawn(m));
            }
            default -> judge();
        }
    }

    private void judge() {
        int n = around(1, 4);
        long row = 0;
        for (int i = 0; i < Math.max(1, Math.min(5, n)); i++) {
            row = 1000 * row + doing();
        }
        if (upTo(15) == 0) {
            row = random.nextLong() >> upTo(60);
        }
        same("judge " + n + ", " + row, x.judge(n, row), model.judge(n, row));
    }

    /** Mostly one that can be, or is so as it is now, so that those behind it are looked at. */
    private int doing() {
        int end = upTo(1);
        return switch (upTo(11)) {
            case 0, 1 -> 100 + 10 * end;
            case 2, 3 -> 200 + 1 + upTo(19);
            case 4 -> 300 + model.ask(0);
            case 5 -> 400 + 10 * end + model.end(end, 4);
            case 6 -> 500 + 10 * end + model.end(end, 5);
            case 7 -> 600 + (model.ask(6) + upTo(1)) % 100;
            case 8, 9 -> 701 + 10 * end + upTo(8);
            case 10 -> 300 + upTo(3);
            default -> upTo(999);
        };
    }

    private void rest() {
        int slot = around(0, 1);
        switch (random.nextInt(4)) {
            case 0 -> same("keep " + slot, x.keep(slot), model.keep(slot));
            case 1 -> same("again " + slot, x.again(slot), model.again(slot));
            case 2 -> {
                int what = around(0, 5);
                same("count " + what, x.count(what), model.count(what));
            }
            default -> {
                int sign = around(0, 255);
                same("write " + sign, x.write(sign), model.write(sign));
                same("fault", x.fault(), model.fault());
            }
        }
    }
}
