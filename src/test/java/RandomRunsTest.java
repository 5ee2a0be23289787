import java.util.ArrayDeque;
import java.util.Random;

/**
 * Promises 1 to 39 at once: many runs of just 512 calls, with ordinary arguments, edges and wrong ones
 * (by fixed seeds), each answer held against that of Plain. What a run has to know for its next call it
 * asks of Plain, since beyond 512 calls all that the object answers is free.
 */
public final class RandomRunsTest {
    private static final int RUNS = 3000, CALLS = 512, EVERYTHING = 7 * (2 + 9 + 5);
    private static final int[] EDGES = {-1, 0, 1, 2, 3, 4, 5, 6, 7, 8, 9, 10, 17, 18, 20, 21, 40, 41, 60,
        61, 99, 100, 127, 128, 160, 161, 255, 256, Integer.MAX_VALUE, Integer.MIN_VALUE};
    private static final Check c = new Check();

    private final Random r;
    private final int run;
    private final TenPledges x = new TenPledges();
    private final Plain p = new Plain();
    private final ArrayDeque<Integer> letters = new ArrayDeque<>();
    private int calls;

    private RandomRunsTest(int run) {
        this.run = run;
        r = new Random(run);
    }

    public static void main(String[] args) {
        for (int run = 0; run < RUNS; run++) {
            RandomRunsTest one = new RandomRunsTest(run);
            while (one.calls < CALLS) {
                one.call();
            }
            c.due("run " + run + ": calls on one object", one.calls, CALLS);
        }
        c.finish();
    }

    /** One call on the object. */
    private void due(String call, long got, long want) {
        calls++;
        c.due("run " + run + ": " + call, got, want);
    }

    /** Mostly below a bound, now and then something else. */
    private int arg(int bound) {
        return r.nextInt(12) == 0 ? EDGES[r.nextInt(EDGES.length)] : r.nextInt(bound);
    }

    private int man() {
        return arg(Math.max(1, p.rule(0)));
    }

    /** Mostly a set that may do wrong. */
    private int wrong() {
        int set = arg(1 << p.rule(0));
        for (int m = 0; m < p.rule(0) && r.nextInt(8) != 0; m++) {
            set &= p.man(m, 0) == 2 ? ~(1 << m) : -1;
        }
        return set;
    }

    private void call() {
        if (letters.isEmpty() && (p.rule(0) == 0 || r.nextInt(200) == 0) && r.nextInt(3) != 0) {
            writeText();
        }
        if (!letters.isEmpty()) {
            int letter = letters.pop();
            if (letter >= 0) {
                due("feed(" + letter + ")", x.feed(letter), p.feed(letter));
            } else {
                due("text()", x.text(), p.text());
                if (calls < CALLS) {
                    due("fault()", x.fault(), p.fault);
                }
                if (r.nextInt(4) == 0) {
                    everything();
                }
            }
            return;
        }
        switch (r.nextInt(4)) {
            case 0: askedCall(); break;
            case 1: changingCall(); break;
            case 2: searchingCall(); break;
            default: sheetCall();
        }
        if (r.nextInt(250) == 0) {
            everything();
        }
    }

    private void writeText() {
        StringBuilder text = new StringBuilder();
        int lines = r.nextInt(13);
        for (int i = 0; i < lines && text.length() < 150; i++) {
            text.append(line());
        }
        if (r.nextInt(3) == 0 && text.length() > 0) {
            int where = r.nextInt(text.length());
            String signs = "  ;;09acfkmqsw019kinA~";
            char sign = signs.charAt(r.nextInt(signs.length()));
            if (r.nextInt(3) == 0) {
                text.deleteCharAt(where);
            } else if (r.nextBoolean()) {
                text.insert(where, sign);
            } else {
                text.setCharAt(where, sign);
            }
        }
        for (int i = 0; i < text.length(); i++) {
            letters.add((int) text.charAt(i));
        }
        letters.add(-1);
    }

    private String line() {
        int odds = r.nextInt(30) == 0 ? r.nextInt(13) : r.nextInt(10);
        int ten = r.nextInt(40) == 0 ? 4 : r.nextInt(4);
        int goods = r.nextInt(100);
        switch (r.nextInt(14)) {
            case 0: case 1: case 2: return "calm " + odds + " " + goods + " " + ten + ";";
            case 3: case 4: case 5: case 6: return "quarrel " + odds + " " + goods + " " + ten + ";";
            case 7: return "saint " + goods + " " + ten + "; ";
            case 8: return "wander " + odds + " " + goods + ";";
            case 9: return "fine " + goods + ";";
            case 10: return "watch " + odds + ";";
            case 11: case 12: return "most " + ten + " " + (1 + r.nextInt(25) % 6) + ";";
            default: return "kin " + r.nextInt(3) + " " + r.nextInt(5) + ";";
        }
    }

    private void askedCall() {
        int a = arg(8);
        int m = man();
        switch (r.nextInt(9)) {
            case 0: due("rule(" + a + ")", x.rule(a), p.rule(a)); break;
            case 1: due("man(" + m + ", " + a + ")", x.man(m, a), p.man(m, a)); break;
            case 2: {
                int t = arg(4);
                due("ten(" + t + ", " + a + ")", x.ten(t, a), p.ten(t, a));
                break;
            }
            case 3: due("count(" + a + ")", x.count(a), p.count(a)); break;
            case 4: due("harm()", x.harm(), p.harm()); break;
            case 5: {
                int t = arg(4);
                int w = arg(2);
                due("calm(" + t + ", " + w + ")", x.calm(t, w), p.calm(t, w));
                break;
            }
            case 6: {
                int wrong = wrong();
                due("pays(" + m + ", " + wrong + ")", x.pays(m, wrong), p.pays(m, wrong));
                break;
            }
            case 7: due("weight(" + m + ")", x.weight(m), p.weight(m)); break;
            default: {
                int n = arg(1 + p.count(5));
                due("end(" + n + ")", x.end(n), p.end(n));
            }
        }
    }

    private void changingCall() {
        int m = man();
        int n = man();
        boolean is = r.nextInt(3) != 0;
        switch (r.nextInt(13)) {
            case 0: case 1: {
                int t = arg(4);
                due("move(" + m + ", " + t + ")", x.move(m, t), p.move(m, t));
                break;
            }
            case 2: due("leave(" + m + ")", x.leave(m), p.leave(m)); break;
            case 3: due("swap(" + m + ", " + n + ")", x.swap(m, n), p.swap(m, n)); break;
            case 4: case 5: due("watch(" + m + ", " + is + ")", x.watch(m, is), p.watch(m, is)); break;
            case 6: due("kin(" + m + ", " + n + ", " + is + ")", x.kin(m, n, is), p.kin(m, n, is)); break;
            case 7: {
                int v = arg(10);
                due("odd(" + m + ", " + v + ")", x.odd(m, v), p.odd(m, v));
                break;
            }
            case 8: {
                int what = arg(2);
                int v = what == 0 ? arg(100) : arg(10);
                due("law(" + what + ", " + v + ")", x.law(what, v), p.law(what, v));
                break;
            }
            case 9: {
                int v = arg(100);
                due("goods(" + m + ", " + v + ")", x.goods(m, v), p.goods(m, v));
                break;
            }
            case 10: case 11: {
                int wrong = wrong();
                due("year(" + wrong + ")", x.year(wrong), p.year(wrong));
                break;
            }
            default: {
                int k = arg(2);
                if (is) {
                    due("keep(" + k + ")", x.keep(k), p.keep(k));
                } else {
                    due("back(" + k + ")", x.back(k), p.back(k));
                }
            }
        }
    }

    private void searchingCall() {
        int m = man();
        int w = arg(2);
        switch (r.nextInt(11)) {
            case 0: due("mean(" + m + ", " + w + ")", x.mean(m, w), p.mean(m, w)); break;
            case 1: {
                // The model looks at all puttings: it is asked seldom when there are many.
                if (p.rule(0) < 7 || r.nextInt(20) == 0) {
                    int what = r.nextBoolean() ? 0 : 10 + m;
                    due("best(" + what + ")", x.best(what), p.best(what));
                }
                break;
            }
            case 2: due("change(" + w + ")", x.change(w), p.change(w)); break;
            case 3: due("takes(" + m + ")", x.takes(m), p.takes(m)); break;
            case 4: due("should(" + m + ")", x.should(m), p.should(m)); break;
            case 5: due("guard(" + w + ")", x.guard(w), p.guard(w)); break;
            case 6: due("worth(" + m + ")", x.worth(m), p.worth(m)); break;
            case 7: {
                // What is seen is mostly what some year would bring.
                int less = arg(100);
                if (r.nextInt(4) != 0 && p.pays(m, wrong()) >= 0) {
                    less = Math.max(0, p.pays(m, wrong()));
                }
                due("see(" + m + ", " + less + ")", x.see(m, less), p.see(m, less));
                break;
            }
            case 8: {
                int n = arg(1 + p.count(3));
                due("forget(" + n + ")", x.forget(n), p.forget(n));
                break;
            }
            case 9: {
                int what = arg(5);
                due("fits(" + what + ")", x.fits(what), p.fits(what));
                break;
            }
            default: {
                int seed = r.nextInt();
                int n = arg(62);
                due("drift(" + seed + ", " + n + ", " + w + ")", x.drift(seed, n, w), p.drift(seed, n, w));
            }
        }
    }

    private void sheetCall() {
        int k = arg(2);
        int lane = r.nextInt(3) == 0 ? arg(3) : 0;
        switch (r.nextInt(8)) {
            case 0: {
                int n = r.nextInt(4) == 0 ? arg(41) : 4 + r.nextInt(6);
                due("sheet(" + k + ", " + lane + ", " + n + ")", x.sheet(k, lane, n), p.sheet(k, lane, n));
                break;
            }
            case 1: case 2: case 3: case 4: {
                int i = arg(10);
                int v = i % 2 == 0 ? man() : arg(4);
                v += r.nextInt(6) == 0 ? 256 : 0;
                due("lay(" + k + ", " + i + ", " + v + ")", x.lay(k, i, v), p.lay(k, i, v));
                break;
            }
            default: {
                int f = r.nextInt(3) == 0 ? arg(12) : 2 * r.nextInt(3);
                int n = r.nextInt(3) == 0 ? arg(21) : r.nextInt(4);
                due("read(" + k + ", " + lane + ", " + f + ", " + n + ")",
                        x.read(k, lane, f, n), p.read(k, lane, f, n));
                if (calls < CALLS) {
                    due("torn()", x.torn(), p.torn);
                }
            }
        }
    }

    /** All that can be asked for without a search, if there are calls enough left. */
    private void everything() {
        if (calls + EVERYTHING > CALLS) {
            return;
        }
        for (int what = 0; what < 7; what++) {
            due("rule(" + what + ")", x.rule(what), p.rule(what));
            due("count(" + what + ")", x.count(what), p.count(what));
            for (int m = 0; m < 9; m++) {
                due("man(" + m + ", " + what + ")", x.man(m, what), p.man(m, what));
            }
            for (int t = 0; t < 5; t++) {
                due("ten(" + t + ", " + what + ")", x.ten(t, what), p.ten(t, what));
            }
        }
    }
}
