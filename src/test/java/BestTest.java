import java.util.Random;

/**
 * Promise 22 for towns that are hard to put: eight MEN, mostly quarrelsome, TENS of unlike MOST (by
 * fixed seeds). Held against all PUTTINGS, looked at one by one, the first by MEN first.
 */
public final class BestTest {
    private static final int TOWNS = 500, MEN = 8, TENS = 4;
    private static final Check c = new Check();

    private final Random r;
    private final int[] kinds = new int[MEN];
    private final int[] odds = new int[MEN];
    private final int[] mosts = new int[TENS];
    private final boolean[] watched = new boolean[MEN];
    private final int[] tried = new int[MEN];
    private final int[] sizes = new int[TENS];
    private int[] first;
    private int least = Integer.MAX_VALUE;

    private BestTest(int seed) {
        r = new Random(seed);
    }

    public static void main(String[] args) {
        for (int seed = 0; seed < TOWNS; seed++) {
            new BestTest(seed).compare("22 town " + seed + ": ");
        }
        c.finish();
    }

    private void compare(String town) {
        TenPledges x = told();
        put(0);
        c.due(town + "best(0)", x.best(0), least);
        for (int m = 0; m < MEN; m++) {
            c.due(town + "best(1" + m + ")", x.best(10 + m), first[m]);
        }
    }

    /**
     * ODDS near 0 and near 9, so that halves, and 9 at most, count. The MEN fill TENS one behind
     * another, so that the text is taken.
     */
    private TenPledges told() {
        StringBuilder text = new StringBuilder("fine1;watch0;");
        int places = 0;
        while (places < MEN) {
            places = 0;
            for (int t = 0; t < TENS; t++) {
                mosts[t] = 1 + r.nextInt(5);
                places += mosts[t];
            }
        }
        for (int t = 0; t < TENS; t++) {
            text.append("most" + t + " " + mosts[t] + ";");
        }
        int span = 1 + r.nextInt(10);
        int ten = 0;
        int left = mosts[0];
        for (int m = 0; m < MEN; m++) {
            kinds[m] = r.nextInt(4) == 0 ? r.nextInt(4) : 1;
            odds[m] = kinds[m] == 2 ? 0 : (r.nextInt(2) == 0 ? 9 - r.nextInt(span) : r.nextInt(span));
            while (kinds[m] != 3 && left == 0) {
                ten++;
                left = mosts[ten];
            }
            left -= kinds[m] == 3 ? 0 : 1;
            text.append(line(m, ten));
        }
        TenPledges x = new TenPledges();
        Check.feed(x, text.toString());
        c.due("text() of " + text, x.text(), 2 + TENS + MEN);
        for (int m = 0; m < MEN; m++) {
            watched[m] = kinds[m] != 3 && r.nextInt(3) == 0;
            x.watch(m, watched[m]);
        }
        return x;
    }

    private String line(int m, int ten) {
        switch (kinds[m]) {
            case 0: return "calm" + odds[m] + " 0 " + ten + ";";
            case 1: return "quarrel" + odds[m] + " 0 " + ten + ";";
            case 2: return "saint0 " + ten + ";";
            default: return "wander" + odds[m] + " 0;";
        }
    }

    private void put(int m) {
        if (m == MEN) {
            int harm = harm();
            if (harm < least) {
                least = harm;
                first = tried.clone();
            }
            return;
        }
        if (kinds[m] == 3) {
            tried[m] = TenPledges.NONE;
            put(m + 1);
            return;
        }
        for (int t = 0; t < TENS; t++) {
            if (sizes[t] < mosts[t]) {
                tried[m] = t;
                sizes[t]++;
                put(m + 1);
                sizes[t]--;
            }
        }
    }

    /** HARM OF ALL with FINE 1 and COST 0. */
    private int harm() {
        int sum = 0;
        for (int m = 0; m < MEN; m++) {
            int his = odds[m];
            for (int n = 0; n < MEN && kinds[m] == 1; n++) {
                his += n != m && kinds[n] == 1 && tried[n] == tried[m] ? 1 : 0;
            }
            sum += Math.min(9, watched[m] ? his / 2 : his);
        }
        return sum;
    }
}
