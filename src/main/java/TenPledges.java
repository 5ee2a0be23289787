/**
 * Men in tens that answer for their own. The numbered promises in the comments are those of the
 * document (DOC.md); words in capitals are its terms.
 */
public final class TenPledges {
    public static final int BAD = -1, STATE = -2, FULL = -3, NONE = -4;

    private static final int CALM = 0, QUARRELSOME = 1, SAINT = 2, WANDERER = 3;
    private static final int MEN_MOST = 8, TENS = 4;
    private static final int ODDS_MOST = 9, GOODS_MOST = 99, FINE_MOST = 99, COST_MOST = 9;
    private static final int FIRST_FINE = 12, FIRST_COST = 2, FIRST_MOST = 3;
    private static final int YEAR_MOST = 99, DRIFT_MOST = 60;
    private static final int SEEN_MOST = 6, IMAGES = 2;
    private static final int TAPE_MOST = 160;
    private static final int SHEETS = 4, LANES = 3, CELLS_MOST = 40, READ_MOST = 20;
    private static final int NULL_FAULT = 1, INDEX_FAULT = 2, CAST_FAULT = 3, SIZE_FAULT = 4;
    private static final int NO_FAULT = 0;
    private static final int BEYOND_HARM = 1000000;

    private final Town town = new Town();
    // Every "what if" is played in this one town, so that no call has to make another.
    private final Town trial = new Town();
    private final Town[] images = new Town[IMAGES];
    private final boolean[] kept = new boolean[IMAGES];
    private final Sheet[] sheets = new Sheet[SHEETS];
    private final byte[] tape = new byte[TAPE_MOST];
    private final Teller teller = new Teller();
    private final Putting putting = new Putting();
    private final Fitting fitting = new Fitting();
    private int tapeLength;
    private int textFault;
    private int readFault;

    // Promise 1
    public TenPledges() {
        for (int k = 0; k < IMAGES; k++) {
            images[k] = new Town();
        }
        for (int k = 0; k < SHEETS; k++) {
            sheets[k] = new Sheet();
        }
    }

    // ---- the text

    // Promise 2
    public int feed(int c) {
        if (c < 0 || c > 127) {
            return BAD;
        }
        if (tapeLength >= TAPE_MOST) {
            return FULL;
        }
        tape[tapeLength] = (byte) c;
        tapeLength++;
        return tapeLength;
    }

    // Promise 3
    public int end(int n) {
        if (n < 0 || n > tapeLength) {
            return BAD;
        }
        int had = tapeLength;
        tapeLength = n;
        return had;
    }

    // Promise 4
    public int text() {
        boolean taken = teller.tell(tape, tapeLength, trial);
        tapeLength = 0;
        textFault = teller.problem;
        if (!taken) {
            return -10 - teller.problemAt;
        }
        town.copyFrom(trial);
        for (int k = 0; k < IMAGES; k++) {
            kept[k] = false;
        }
        return teller.lines;
    }

    // Promise 5
    public int fault() {
        return textFault;
    }

    // Promise 6
    public int rule(int what) {
        switch (what) {
            case 0: return town.men;
            case 1: return town.fine;
            case 2: return town.cost;
            case 3: return town.year;
            case 4: return town.watched;
            case 5: return town.menOfKind(WANDERER);
            default: return BAD;
        }
    }

    // Promise 7
    public int man(int m, int what) {
        if (!town.hasMan(m)) {
            return BAD;
        }
        switch (what) {
            case 0: return town.kinds[m];
            case 1: return town.odds[m];
            case 2: return town.stock[m];
            case 3: return town.tens[m];
            case 4: return town.kins[m];
            case 5: return town.oddsInTen(m);
            default: return BAD;
        }
    }

    // Promise 8
    public int ten(int t, int what) {
        if (!isTen(t)) {
            return BAD;
        }
        switch (what) {
            case 0: return town.menOfTen(t);
            case 1: return town.mosts[t];
            case 2: return town.harmOfTen(t);
            case 3: return town.stockOf(town.menOfTen(t));
            default: return BAD;
        }
    }

    // ---- what is changed

    // Promise 9
    public int move(int m, int t) {
        int refusal = town.whyNoSeat(m, t);
        return refusal != 0 ? refusal : town.seat(m, t);
    }

    // Promise 10
    public int leave(int m) {
        int refusal = refusalInTen(m);
        if (refusal != 0) {
            return refusal;
        }
        int was = town.tens[m];
        town.giveUp(m);
        return was;
    }

    // Promise 11
    public int swap(int m, int n) {
        if (!isPair(m, n)) {
            return BAD;
        }
        if (!town.maySwap(m, n)) {
            return STATE;
        }
        town.exchange(m, n);
        return town.tens[m];
    }

    // Promise 12
    public int watch(int m, boolean is) {
        int refusal = refusalInTen(m);
        if (refusal != 0) {
            return refusal;
        }
        int was = bitOf(town.watched, m);
        town.watched = withBit(town.watched, m, is);
        return was;
    }

    // Promise 13
    public int kin(int m, int n, boolean is) {
        if (!isPair(m, n)) {
            return BAD;
        }
        int was = bitOf(town.kins[m], n);
        town.setKin(m, n, is);
        return was;
    }

    // Promise 14
    public int odd(int m, int v) {
        if (!town.hasMan(m) || !isWithin(v, ODDS_MOST)) {
            return BAD;
        }
        if (town.kinds[m] == SAINT) {
            return STATE;
        }
        int was = town.odds[m];
        town.odds[m] = v;
        return was;
    }

    // Promise 15
    public int law(int what, int v) {
        if (what == 0 && isWithin(v, FINE_MOST)) {
            int was = town.fine;
            town.fine = v;
            return was;
        }
        if (what == 1 && isWithin(v, COST_MOST)) {
            int was = town.cost;
            town.cost = v;
            return was;
        }
        return BAD;
    }

    // Promise 16
    public int goods(int m, int v) {
        if (!town.hasMan(m) || !isWithin(v, GOODS_MOST)) {
            return BAD;
        }
        int was = town.stock[m];
        town.stock[m] = v;
        return was;
    }

    // ---- years

    // Promise 17
    public int year(int wrong) {
        if (!town.mayDoWrong(wrong)) {
            return BAD;
        }
        if (town.year >= YEAR_MOST) {
            return FULL;
        }
        town.year++;
        return town.payAll(wrong);
    }

    // Promise 18
    public int pays(int m, int wrong) {
        if (!town.hasMan(m) || !town.mayDoWrong(wrong)) {
            return BAD;
        }
        trial.copyFrom(town);
        return finesOnTrial(m, wrong);
    }

    // Promise 19
    public int harm() {
        return town.harmOfAll();
    }

    // Promise 20
    public long calm(int t, int what) {
        if (!isTen(t) || !isWithin(what, 1)) {
            return BAD;
        }
        int its = town.menOfTen(t);
        return inLowestTerms(town.chanceOf(its, 0), tenthsOf(its), what);
    }

    // Promise 21
    public long mean(int m, int what) {
        if (!town.hasMan(m) || !isWithin(what, 1)) {
            return BAD;
        }
        // Only wrongs in his own TEN cost him a FINE: what those elsewhere do may be left out.
        int its = town.tens[m] < 0 ? 0 : town.menOfTen(town.tens[m]);
        trial.copyFrom(town);
        long sum = 0;
        for (int wrong = 0; wrong < 1 << MEN_MOST; wrong++) {
            long chance = (wrong & ~its) == 0 ? town.chanceOf(its, wrong) : 0;
            if (chance != 0) {
                sum += chance * finesOnTrial(m, wrong);
            }
        }
        return inLowestTerms(sum, tenthsOf(its), what);
    }

    // ---- who is put where

    // Promise 22
    public int best(int what) {
        int m = what == 0 ? 0 : what - 10;
        if (what < 0 || what != 0 && !town.hasMan(m)) {
            return BAD;
        }
        if (what != 0 && town.tens[m] < 0) {
            return NONE;
        }
        putting.search(town);
        return what == 0 ? putting.least : putting.seats[m];
    }

    // Promise 23
    public int change(int what) {
        if (!isWithin(what, 1)) {
            return BAD;
        }
        trial.copyFrom(town);
        int least = town.harmOfAll();
        int pair = NONE;
        for (int m = 0; m < town.men; m++) {
            for (int n = m + 1; n < town.men; n++) {
                int then = harmBySwap(m, n);
                if (then < least) {
                    least = then;
                    pair = 10 * m + n;
                }
            }
        }
        return pair == NONE || what == 0 ? pair : least;
    }

    // Promise 24
    public int takes(int m) {
        if (!town.hasMan(m)) {
            return BAD;
        }
        int least = 10 * town.fine;
        int taker = NONE;
        for (int t = 0; t < TENS; t++) {
            if (t != town.tens[m] && town.whyNoSeat(m, t) == 0) {
                trial.copyFrom(town);
                trial.seat(m, t);
                int then = trial.harmOfTen(t);
                if (then < least) {
                    least = then;
                    taker = t;
                }
            }
        }
        return taker;
    }

    // Promise 25
    public int weight(int m) {
        int refusal = refusalInTen(m);
        if (refusal != 0) {
            return refusal;
        }
        int t = town.tens[m];
        trial.copyFrom(town);
        trial.giveUp(m);
        return 1000 + town.harmOfTen(t) - trial.harmOfTen(t);
    }

    // ---- a bad one

    // Promise 26
    public int should(int m) {
        int refusal = refusalInTen(m);
        if (refusal != 0) {
            return refusal;
        }
        int asItIs = town.harmOfAll();
        trial.copyFrom(town);
        trial.watched ^= 1 << m;
        int byWatch = trial.harmOfAll();
        trial.giveUp(m);
        int givenUp = trial.harmOfAll();
        if (asItIs <= byWatch && asItIs <= givenUp) {
            return 0;
        }
        return byWatch <= givenUp ? 1 : 2;
    }

    // Promise 27
    public int guard(int what) {
        if (!isWithin(what, 1)) {
            return BAD;
        }
        // Whether one is watched changes nobody else's ODDS IN A TEN, so each man is chosen by
        // himself; one by whom nothing is won is left out, which makes the set the smallest.
        int set = 0;
        for (int m = 0; m < town.men; m++) {
            set = withBit(set, m, town.wonByWatch(m) > 10 * town.cost);
        }
        if (what == 0) {
            return set;
        }
        trial.copyFrom(town);
        trial.watched = set;
        return trial.harmOfAll();
    }

    // Promise 28
    public int worth(int m) {
        int refusal = refusalInTen(m);
        if (refusal != 0) {
            return refusal;
        }
        int won = town.wonByWatch(m);
        for (int c = COST_MOST; c >= 0; c--) {
            if (won > 10 * c) {
                return c;
            }
        }
        return NONE;
    }

    // ---- from which he ran

    // Promise 29
    public int see(int m, int less) {
        if (!town.hasMan(m) || !isWithin(less, GOODS_MOST)) {
            return BAD;
        }
        if (town.seen >= SEEN_MOST) {
            return FULL;
        }
        town.seenMen[town.seen] = m;
        town.seenLess[town.seen] = less;
        town.seen++;
        return town.seen;
    }

    // Promise 30
    public int forget(int n) {
        if (n < 0 || n > town.seen) {
            return BAD;
        }
        int were = town.seen;
        town.seen = n;
        return were;
    }

    // Promise 31
    public int fits(int what) {
        if (!isWithin(what, 4)) {
            return BAD;
        }
        fitting.search(town, trial);
        if (what == 0) {
            return fitting.sets;
        }
        if (fitting.sets == 0) {
            return NONE;
        }
        switch (what) {
            case 1: return fitting.first;
            case 2: return fitting.inAll;
            case 3: return town.allMen() & ~town.menOfKind(SAINT) & ~fitting.inAny;
            default: return fitting.tensOfAll;
        }
    }

    // ---- by a seed

    // Promise 32
    public int drift(int seed, int n, int what) {
        if (n < 1 || n > DRIFT_MOST || !isWithin(what, 1)) {
            return BAD;
        }
        trial.copyFrom(town);
        int turned = seed;
        int paid = 0;
        for (int i = 0; i < n; i++) {
            int wrong = 0;
            for (int m = 0; m < town.men; m++) {
                turned = turned * 1103515245 + 12345;
                int drawn = (turned >>> 16 & 0x7fff) % 10;
                wrong = withBit(wrong, m, drawn < town.oddsInTen(m));
            }
            paid += trial.payAll(wrong);
        }
        return what == 0 ? paid : trial.stockOf(trial.allMen());
    }

    // ---- images, sheets

    // Promise 33
    public int keep(int k) {
        if (!isWithin(k, IMAGES - 1)) {
            return BAD;
        }
        int was = kept[k] ? 1 : 0;
        images[k].copyFrom(town);
        kept[k] = true;
        return was;
    }

    // Promise 34
    public int back(int k) {
        if (!isWithin(k, IMAGES - 1)) {
            return BAD;
        }
        if (!kept[k]) {
            return STATE;
        }
        town.copyFrom(images[k]);
        return town.year;
    }

    // Promise 35
    public int sheet(int k, int lane, int n) {
        if (!isWithin(k, SHEETS - 1) || !isWithin(lane, LANES - 1) || n > CELLS_MOST) {
            return BAD;
        }
        if (n < 0) {
            return -10 - SIZE_FAULT;
        }
        sheets[k].renew(lane, n);
        return 1;
    }

    // Promise 36
    public int lay(int k, int i, int v) {
        if (!isWithin(k, SHEETS - 1)) {
            return BAD;
        }
        Sheet s = sheets[k];
        int found = s.faultAt(s.lane, i);
        if (found != NO_FAULT) {
            return -10 - found;
        }
        s.write(i, v);
        return 1;
    }

    // Promise 37
    public int read(int k, int lane, int f, int n) {
        if (!isWithin(k, SHEETS - 1) || !isWithin(lane, LANES - 1) || !isWithin(n, READ_MOST)) {
            return BAD;
        }
        // The moves are made in the trial town, so that a refused one takes back those ahead.
        trial.copyFrom(town);
        Sheet s = sheets[k];
        int found = NO_FAULT;
        int came = 0;
        for (int i = 0; i < n && found == NO_FAULT; i++) {
            int at = f + 2 * i;
            found = s.faultAtTwo(lane, at);
            if (found == NO_FAULT) {
                if (trial.whyNoSeat(s.cells[at], s.cells[at + 1]) != 0) {
                    return -20 - i;
                }
                trial.seat(s.cells[at], s.cells[at + 1]);
                came++;
            }
        }
        town.copyFrom(trial);
        readFault = found;
        return came;
    }

    // Promise 38
    public int torn() {
        return readFault;
    }

    // Promise 39
    public int count(int what) {
        switch (what) {
            case 0: return town.men - Integer.bitCount(town.menOfKind(WANDERER));
            case 1: return town.tensWithMen();
            case 2: return town.stockOf(town.allMen());
            case 3: return town.seen;
            case 4: return (kept[0] ? 1 : 0) + (kept[1] ? 1 : 0);
            case 5: return tapeLength;
            case 6: return sheets[0].size;
            default: return BAD;
        }
    }

    // ---- helpers of the calls

    private int refusalInTen(int m) {
        if (!town.hasMan(m)) {
            return BAD;
        }
        return town.tens[m] < 0 ? STATE : 0;
    }

    private boolean isPair(int m, int n) {
        return town.hasMan(m) && town.hasMan(n) && m != n;
    }

    /** What FINES take of a MAN; the trial town is a copy of the town but for its GOODS. */
    private int finesOnTrial(int m, int wrong) {
        trial.copyStock(town);
        trial.payFines(wrong);
        return town.stock[m] - trial.stock[m];
    }

    /** HARM OF ALL with two changed, by the trial town, which is as before then. */
    private int harmBySwap(int m, int n) {
        if (!trial.maySwap(m, n)) {
            return BEYOND_HARM;
        }
        trial.exchange(m, n);
        int then = trial.harmOfAll();
        trial.exchange(m, n);
        return then;
    }

    private static boolean isTen(int t) {
        return t >= 0 && t < TENS;
    }

    private static boolean isWithin(int v, int most) {
        return v >= 0 && v <= most;
    }

    private static int bitOf(int set, int i) {
        return set >> i & 1;
    }

    private static int withBit(int set, int i, boolean is) {
        return is ? set | 1 << i : set & ~(1 << i);
    }

    /** The denominator of chances that are products of tenths, one for each of these men. */
    private static long tenthsOf(int men) {
        long product = 1;
        for (int i = Integer.bitCount(men); i > 0; i--) {
            product *= 10;
        }
        return product;
    }

    private static long inLowestTerms(long top, long bottom, int what) {
        long common = greatestCommon(top, bottom);
        if (common <= 0) {
            return BAD;
        }
        return what == 0 ? top / common : bottom / common;
    }

    private static long greatestCommon(long a, long b) {
        long greater = a;
        long lesser = b;
        // Euclid's steps halve the numbers every second time: 200 are beyond any two longs.
        for (int i = 0; i < 200 && lesser != 0; i++) {
            long rest = greater % lesser;
            greater = lesser;
            lesser = rest;
        }
        return greater;
    }

    /** MEN with their KIN, who is watched, the laws, YEAR and what was SEEN. */
    private static final class Town {
        int men;
        int fine = FIRST_FINE;
        int cost = FIRST_COST;
        int year;
        int watched;
        int seen;
        final int[] kinds = new int[MEN_MOST];
        final int[] odds = new int[MEN_MOST];
        final int[] stock = new int[MEN_MOST];
        // NONE for a wanderer
        final int[] tens = new int[MEN_MOST];
        final int[] kins = new int[MEN_MOST];
        final int[] mosts = {FIRST_MOST, FIRST_MOST, FIRST_MOST, FIRST_MOST};
        final int[] seenMen = new int[SEEN_MOST];
        final int[] seenLess = new int[SEEN_MOST];

        void clear() {
            men = 0;
            fine = FIRST_FINE;
            cost = FIRST_COST;
            year = 0;
            watched = 0;
            seen = 0;
            for (int m = 0; m < MEN_MOST; m++) {
                kins[m] = 0;
            }
            for (int t = 0; t < TENS; t++) {
                mosts[t] = FIRST_MOST;
            }
        }

        void copyFrom(Town other) {
            men = other.men;
            fine = other.fine;
            cost = other.cost;
            year = other.year;
            watched = other.watched;
            seen = other.seen;
            for (int m = 0; m < MEN_MOST; m++) {
                kinds[m] = other.kinds[m];
                odds[m] = other.odds[m];
                tens[m] = other.tens[m];
                kins[m] = other.kins[m];
            }
            copyStock(other);
            for (int t = 0; t < TENS; t++) {
                mosts[t] = other.mosts[t];
            }
            for (int i = 0; i < SEEN_MOST; i++) {
                seenMen[i] = other.seenMen[i];
                seenLess[i] = other.seenLess[i];
            }
        }

        void copyStock(Town other) {
            for (int m = 0; m < MEN_MOST; m++) {
                stock[m] = other.stock[m];
            }
        }

        // -- who there is

        boolean hasMan(int m) {
            return m >= 0 && m < men;
        }

        int allMen() {
            return (1 << men) - 1;
        }

        int menOfKind(int kind) {
            int set = 0;
            for (int m = 0; m < men; m++) {
                if (kinds[m] == kind) {
                    set |= 1 << m;
                }
            }
            return set;
        }

        int menOfTen(int t) {
            int set = 0;
            for (int m = 0; m < men; m++) {
                if (tens[m] == t) {
                    set |= 1 << m;
                }
            }
            return set;
        }

        int sizeOfTen(int t) {
            return Integer.bitCount(menOfTen(t));
        }

        int tensWithMen() {
            int number = 0;
            for (int t = 0; t < TENS; t++) {
                if (menOfTen(t) != 0) {
                    number++;
                }
            }
            return number;
        }

        /** The TENS of a set of MEN (bits). */
        int tensOf(int set) {
            int theirs = 0;
            for (int m = 0; m < men; m++) {
                if (bitOf(set, m) != 0 && tens[m] >= 0) {
                    theirs |= 1 << tens[m];
                }
            }
            return theirs;
        }

        int stockOf(int set) {
            int sum = 0;
            for (int m = 0; m < men; m++) {
                if (bitOf(set, m) != 0) {
                    sum += stock[m];
                }
            }
            return sum;
        }

        // -- who goes where

        /** The caller sees to it that there are fewer than MEN_MOST. */
        void addMan(int kind, int his, int has, int t) {
            kinds[men] = kind;
            odds[men] = his;
            stock[men] = has;
            tens[men] = t;
            men++;
        }

        void setKin(int m, int n, boolean is) {
            kins[m] = withBit(kins[m], n, is);
            kins[n] = withBit(kins[n], m, is);
        }

        /** Why a MAN can not go to a TEN; 0: he can. */
        int whyNoSeat(int m, int t) {
            if (!hasMan(m) || !isTen(t)) {
                return BAD;
            }
            // In his own TEN he is one of those that it has: nobody comes in addition.
            return tens[m] != t && sizeOfTen(t) >= mosts[t] ? FULL : 0;
        }

        int seat(int m, int t) {
            int was = tens[m];
            tens[m] = t;
            if (kinds[m] == WANDERER) {
                kinds[m] = CALM;
            }
            return was;
        }

        void giveUp(int m) {
            tens[m] = NONE;
            kinds[m] = WANDERER;
            watched = withBit(watched, m, false);
        }

        boolean maySwap(int m, int n) {
            return tens[m] >= 0 && tens[n] >= 0 && tens[m] != tens[n];
        }

        void exchange(int m, int n) {
            int was = tens[m];
            tens[m] = tens[n];
            tens[n] = was;
        }

        // -- odds and harm

        int oddsInTen(int m) {
            return oddsIfWatched(m, bitOf(watched, m) != 0);
        }

        int oddsIfWatched(int m, boolean is) {
            if (kinds[m] != QUARRELSOME) {
                return oddsAmong(m, 0, is);
            }
            int rough = menOfTen(tens[m]) & menOfKind(QUARRELSOME);
            return oddsAmong(m, Integer.bitCount(rough) - 1, is);
        }

        /** ODDS IN A TEN of a MAN with so many other quarrelsome ones. */
        int oddsAmong(int m, int others, boolean is) {
            if (kinds[m] == SAINT) {
                return 0;
            }
            int his = kinds[m] == QUARRELSOME ? odds[m] + others : odds[m];
            return Math.min(is ? his / 2 : his, ODDS_MOST);
        }

        /** By how much FINES of a MAN (tenths) are less if he is watched than if not. */
        int wonByWatch(int m) {
            if (tens[m] < 0) {
                return 0;
            }
            return fine * (oddsIfWatched(m, false) - oddsIfWatched(m, true));
        }

        int harmOfTen(int t) {
            int its = menOfTen(t);
            int sum = 0;
            for (int m = 0; m < men; m++) {
                if (bitOf(its, m) != 0) {
                    sum += oddsInTen(m);
                }
            }
            return sum * fine + 10 * cost * Integer.bitCount(its & watched);
        }

        int harmOfAll() {
            int sum = 0;
            for (int t = 0; t < TENS; t++) {
                sum += harmOfTen(t);
            }
            for (int m = 0; m < men; m++) {
                if (kinds[m] == WANDERER) {
                    sum += odds[m] * fine;
                }
            }
            return sum;
        }

        /** The chance (by tenthsOf(among)) that of some men just those of a set do wrong. */
        long chanceOf(int among, int set) {
            long product = 1;
            for (int m = 0; m < men; m++) {
                if (bitOf(among, m) != 0) {
                    int his = oddsInTen(m);
                    product *= bitOf(set, m) != 0 ? his : 10 - his;
                }
            }
            return product;
        }

        // -- what is paid

        boolean mayDoWrong(int set) {
            return (set & ~(allMen() & ~menOfKind(SAINT))) == 0;
        }

        int payAll(int wrong) {
            int fines = payFines(wrong);
            return fines + payCosts();
        }

        int payFines(int wrong) {
            int paid = 0;
            for (int m = 0; m < men; m++) {
                if (bitOf(wrong, m) != 0 && tens[m] >= 0) {
                    paid += payFor(m);
                }
            }
            return paid;
        }

        int payFor(int m) {
            int payers = withBit(menOfTen(tens[m]) & ~kins[m], m, false);
            int number = Integer.bitCount(payers);
            if (number == 0) {
                return 0;
            }
            int uneven = fine % number;
            int paid = 0;
            for (int n = 0; n < men; n++) {
                if (bitOf(payers, n) != 0) {
                    paid += takeFrom(n, fine / number + (uneven > 0 ? 1 : 0));
                    uneven--;
                }
            }
            return paid;
        }

        int payCosts() {
            int paid = 0;
            for (int t = 0; t < TENS; t++) {
                int its = menOfTen(t);
                int due = cost * Integer.bitCount(its & watched);
                for (int m = 0; m < men && due > 0; m++) {
                    if (bitOf(its, m) != 0) {
                        int given = takeFrom(m, due);
                        due -= given;
                        paid += given;
                    }
                }
            }
            return paid;
        }

        int takeFrom(int m, int due) {
            int given = Math.min(due, stock[m]);
            stock[m] -= given;
            return given;
        }
    }

    /** Looks for the PUTTING by which HARM OF ALL is least. */
    private static final class Putting {
        // The best one found, and its HARM
        final int[] seats = new int[MEN_MOST];
        int least;
        private Town town;
        // The one that is tried; how many, and how many quarrelsome ones, are in each TEN by it
        private final int[] tried = new int[MEN_MOST];
        private final int[] sizes = new int[TENS];
        private final int[] roughs = new int[TENS];

        void search(Town of) {
            town = of;
            least = BEYOND_HARM;
            for (int t = 0; t < TENS; t++) {
                sizes[t] = 0;
                roughs[t] = 0;
            }
            seatFrom(0);
        }

        /** Seats the MEN from m on in every way that may still be better, TENS by numbers. */
        private void seatFrom(int m) {
            if (m >= town.men || m >= MEN_MOST) {
                takeIt(atLeastHarm(m));
                return;
            }
            if (town.kinds[m] == WANDERER) {
                tried[m] = NONE;
                seatFrom(m + 1);
                return;
            }
            int rough = town.kinds[m] == QUARRELSOME ? 1 : 0;
            for (int t = 0; t < TENS; t++) {
                if (sizes[t] < town.mosts[t] && !isLikeEarlier(t)) {
                    tried[m] = t;
                    sizes[t]++;
                    roughs[t] += rough;
                    if (atLeastHarm(m + 1) < least) {
                        seatFrom(m + 1);
                    }
                    sizes[t]--;
                    roughs[t] -= rough;
                }
            }
        }

        private void takeIt(int itsHarm) {
            least = itsHarm;
            for (int m = 0; m < town.men; m++) {
                seats[m] = tried[m];
            }
        }

        /**
         * Of empty TENS with the same MOST the first one stands for all: the others give the same
         * HARM, and come later by numbers.
         */
        private boolean isLikeEarlier(int t) {
            for (int u = 0; u < t && sizes[t] == 0; u++) {
                if (sizes[u] == 0 && town.mosts[u] == town.mosts[t]) {
                    return true;
                }
            }
            return false;
        }

        /**
         * What HARM OF ALL comes to at least when the MEN before this one are seated as tried: TENS
         * only fill up, so no other will find fewer quarrelsome ones than there are by now.
         */
        private int atLeastHarm(int seated) {
            int fewest = fewestRough();
            int sum = 0;
            for (int m = 0; m < town.men; m++) {
                int others = fewest;
                if (m < seated) {
                    others = tried[m] < 0 ? 0 : roughs[tried[m]] - 1;
                }
                sum += town.oddsAmong(m, others, bitOf(town.watched, m) != 0);
            }
            return sum * town.fine + 10 * town.cost * Integer.bitCount(town.watched);
        }

        private int fewestRough() {
            int fewest = MEN_MOST;
            for (int t = 0; t < TENS; t++) {
                if (sizes[t] < town.mosts[t]) {
                    fewest = Math.min(fewest, roughs[t]);
                }
            }
            return fewest;
        }
    }

    /** Looks for the sets of MEN that FIT what was SEEN. */
    private static final class Fitting {
        int sets;
        int first;
        int inAll;
        int inAny;
        int tensOfAll;

        /** The second town is written over. */
        void search(Town town, Town scratch) {
            sets = 0;
            first = 0;
            inAll = town.allMen();
            inAny = 0;
            tensOfAll = (1 << TENS) - 1;
            scratch.copyFrom(town);
            int saints = town.menOfKind(SAINT);
            int all = town.allMen();
            for (int set = 0; set <= all; set++) {
                if ((set & saints) == 0 && isAsSeen(town, scratch, set)) {
                    addSet(set, town.tensOf(set));
                }
            }
        }

        private void addSet(int set, int theirs) {
            if (sets == 0) {
                first = set;
            }
            sets++;
            inAll &= set;
            inAny |= set;
            tensOfAll &= theirs;
        }

        private static boolean isAsSeen(Town town, Town scratch, int set) {
            scratch.copyStock(town);
            scratch.payAll(set);
            for (int i = 0; i < town.seen; i++) {
                int m = town.seenMen[i];
                if (town.stock[m] - scratch.stock[m] != town.seenLess[i]) {
                    return false;
                }
            }
            return true;
        }
    }

    /** A row of one lane's CELLS, or nothing (its size is NONE). */
    private static final class Sheet {
        int lane;
        int size = NONE;
        final int[] cells = new int[CELLS_MOST];

        void renew(int newLane, int n) {
            lane = newLane;
            size = n;
            for (int i = 0; i < CELLS_MOST; i++) {
                cells[i] = 0;
            }
        }

        void write(int i, int v) {
            switch (lane) {
                case 0: cells[i] = (byte) v; break;
                case 1: cells[i] = (short) v; break;
                default: cells[i] = v;
            }
        }

        /** The FAULT of using CELL i of this as of a lane, in the order in which Java finds it. */
        int faultAt(int asLane, int i) {
            if (size < 0) {
                return NULL_FAULT;
            }
            if (asLane != lane) {
                return CAST_FAULT;
            }
            return i < 0 || i >= size ? INDEX_FAULT : NO_FAULT;
        }

        int faultAtTwo(int asLane, int i) {
            int found = faultAt(asLane, i);
            return found != NO_FAULT ? found : faultAt(asLane, i + 1);
        }
    }

    /** Reads a text into a town, up to its first FAULT. */
    private static final class Teller {
        private static final int END = 0, NAME = 1, NUMBER = 2, STOP = 3;
        private static final int NO_WORD = -1, WORDS = 8, NUMBERS_MOST = 3;
        // The words by their numbers, as the tables and wordOf() have them.
        private static final int QUARREL_LINE = 1, SAINT_LINE = 2, WANDER_LINE = 3, FINE_LINE = 4,
                WATCH_LINE = 5, MOST_LINE = 6, KIN_LINE = 7;
        // How many numbers stand behind each word.
        private static final int[] NUMBERS = {3, 3, 2, 2, 1, 1, 2, 2};
        // The bounds of these numbers, three places for each word.
        private static final int[] LOWEST = {
            0, 0, 0,  0, 0, 0,  0, 0, 0,  0, 0, 0,  0, 0, 0,  0, 0, 0,  0, 1, 0,  0, 0, 0};
        private static final int[] HIGHEST = {
            9, 99, 3,  9, 99, 3,  99, 3, 0,  9, 99, 0,  99, 0, 0,  9, 0, 0,  3, 5, 0,  7, 7, 0};

        int lines;
        int problem;
        int problemAt;
        private Town told;
        private byte[] bytes;
        private int length;
        // Where the next token is looked for
        private int place;
        private int token;
        private int tokenAt;
        private int value;
        private final int[] numbers = new int[NUMBERS_MOST];
        private boolean fineTold;
        private boolean watchTold;
        private int mostsTold;
        private int kinMen;

        /** Whether the text is taken; else problem, problemAt say why not, and where. */
        boolean tell(byte[] tapeBytes, int tapeLength, Town into) {
            start(tapeBytes, tapeLength, into);
            for (int i = 0; i <= TAPE_MOST; i++) {
                if (!nextToken()) {
                    return false;
                }
                if (token == END) {
                    return agrees();
                }
                if (!takeLine()) {
                    return false;
                }
                lines++;
            }
            return false;
        }

        private void start(byte[] tapeBytes, int tapeLength, Town into) {
            bytes = tapeBytes;
            length = tapeLength;
            told = into;
            told.clear();
            lines = 0;
            problem = NO_FAULT;
            problemAt = 0;
            place = 0;
            fineTold = false;
            watchTold = false;
            mostsTold = 0;
            kinMen = 0;
        }

        private boolean refuse(int what, int where) {
            problem = what;
            problemAt = where;
            return false;
        }

        /** What can be judged only behind all lines. */
        private boolean agrees() {
            if ((kinMen & ~told.allMen()) != 0) {
                return refuse(6, length);
            }
            for (int t = 0; t < TENS; t++) {
                if (told.sizeOfTen(t) > told.mosts[t]) {
                    return refuse(7, length);
                }
            }
            return true;
        }

        // -- tokens

        private boolean nextToken() {
            while (place < length && bytes[place] == ' ') {
                place++;
            }
            tokenAt = place;
            if (place >= length) {
                token = END;
                return true;
            }
            int c = bytes[place];
            if (c == ';') {
                token = STOP;
                place++;
                return true;
            }
            if (isIn(c, 'a', 'z')) {
                token = NAME;
                pass('a', 'z');
                return true;
            }
            return isIn(c, '0', '9') ? takeFigures() : refuse(1, tokenAt);
        }

        private boolean takeFigures() {
            token = NUMBER;
            pass('0', '9');
            if (place - tokenAt > 2) {
                return refuse(1, tokenAt);
            }
            value = 0;
            for (int i = tokenAt; i < place; i++) {
                value = 10 * value + bytes[i] - '0';
            }
            return true;
        }

        private void pass(char low, char high) {
            while (place < length && bytes[place] >= low && bytes[place] <= high) {
                place++;
            }
        }

        private static boolean isIn(int c, char low, char high) {
            return c >= low && c <= high;
        }

        // -- lines

        private boolean takeLine() {
            int word = token == NAME ? wordHere() : NO_WORD;
            if (word == NO_WORD) {
                return refuse(2, tokenAt);
            }
            if (word == FINE_LINE && fineTold || word == WATCH_LINE && watchTold) {
                return refuse(4, tokenAt);
            }
            if (word <= WANDER_LINE && told.men >= MEN_MOST) {
                return refuse(5, tokenAt);
            }
            for (int i = 0; i < NUMBERS[word]; i++) {
                if (!takeNumber(word, i)) {
                    return false;
                }
            }
            if (!nextToken()) {
                return false;
            }
            if (token != STOP) {
                return refuse(2, tokenAt);
            }
            putDown(word);
            return true;
        }

        private boolean takeNumber(int word, int i) {
            if (!nextToken()) {
                return false;
            }
            if (token != NUMBER) {
                return refuse(2, tokenAt);
            }
            int bound = NUMBERS_MOST * word + i;
            if (value < LOWEST[bound] || value > HIGHEST[bound]) {
                return refuse(3, tokenAt);
            }
            if (word == KIN_LINE && i == 1 && value == numbers[0]) {
                return refuse(3, tokenAt);
            }
            if (word == MOST_LINE && i == 0 && bitOf(mostsTold, value) != 0) {
                return refuse(4, tokenAt);
            }
            numbers[i] = value;
            return true;
        }

        private void putDown(int word) {
            int a = numbers[0];
            int b = numbers[1];
            switch (word) {
                case FINE_LINE:
                    told.fine = a;
                    fineTold = true;
                    break;
                case WATCH_LINE:
                    told.cost = a;
                    watchTold = true;
                    break;
                case MOST_LINE:
                    told.mosts[a] = b;
                    mostsTold |= 1 << a;
                    break;
                case KIN_LINE:
                    told.setKin(a, b, true);
                    kinMen |= 1 << a | 1 << b;
                    break;
                case SAINT_LINE:
                    told.addMan(SAINT, 0, a, b);
                    break;
                case WANDER_LINE:
                    told.addMan(WANDERER, a, b, NONE);
                    break;
                case QUARREL_LINE:
                    told.addMan(QUARRELSOME, a, b, numbers[2]);
                    break;
                default:
                    told.addMan(CALM, a, b, numbers[2]);
            }
        }

        private int wordHere() {
            for (int word = 0; word < WORDS; word++) {
                if (isHere(wordOf(word))) {
                    return word;
                }
            }
            return NO_WORD;
        }

        private boolean isHere(String word) {
            if (word.length() != place - tokenAt) {
                return false;
            }
            for (int i = 0; i < word.length(); i++) {
                if (bytes[tokenAt + i] != word.charAt(i)) {
                    return false;
                }
            }
            return true;
        }

        private static String wordOf(int word) {
            switch (word) {
                case 0: return "calm";
                case QUARREL_LINE: return "quarrel";
                case SAINT_LINE: return "saint";
                case WANDER_LINE: return "wander";
                case FINE_LINE: return "fine";
                case WATCH_LINE: return "watch";
                case MOST_LINE: return "most";
                default: return "kin";
            }
        }
    }
}
