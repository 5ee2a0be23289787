import java.util.ArrayList;
import java.util.List;

/**
 * The document once more, in the slowest and plainest way: whatever is "least" is looked for among
 * all, whatever is "if" is played on a deep copy. RandomRunsTest holds the class against it.
 */
final class Plain {
    static final int BAD = -1, STATE = -2, FULL = -3, NONE = -4;

    static final class Man {
        int kind;
        int odds;
        int goods;
        int ten;
        boolean watched;
        final boolean[] kin = new boolean[8];

        Man copy() {
            Man other = new Man();
            other.kind = kind;
            other.odds = odds;
            other.goods = goods;
            other.ten = ten;
            other.watched = watched;
            System.arraycopy(kin, 0, other.kin, 0, 8);
            return other;
        }
    }

    static final class State {
        final List<Man> men = new ArrayList<>();
        final int[] most = {3, 3, 3, 3};
        int fine = 12;
        int cost = 2;
        int year;
        final List<int[]> seen = new ArrayList<>();

        State copy() {
            State other = new State();
            for (Man man : men) {
                other.men.add(man.copy());
            }
            System.arraycopy(most, 0, other.most, 0, 4);
            other.fine = fine;
            other.cost = cost;
            other.year = year;
            other.seen.addAll(seen);
            return other;
        }

        List<Man> in(int t) {
            List<Man> its = new ArrayList<>();
            for (Man man : men) {
                if (man.kind != 3 && man.ten == t) {
                    its.add(man);
                }
            }
            return its;
        }

        int oddsInTen(Man man) {
            if (man.kind == 2) {
                return 0;
            }
            if (man.kind == 3) {
                return man.odds;
            }
            int odds = man.odds;
            if (man.kind == 1) {
                for (Man other : in(man.ten)) {
                    odds += other != man && other.kind == 1 ? 1 : 0;
                }
            }
            if (man.watched) {
                odds /= 2;
            }
            return odds > 9 ? 9 : odds;
        }

        int harm(int t) {
            int sum = 0;
            for (Man man : in(t)) {
                sum += oddsInTen(man) * fine + (man.watched ? 10 * cost : 0);
            }
            return sum;
        }

        int harm() {
            int sum = harm(0) + harm(1) + harm(2) + harm(3);
            for (Man man : men) {
                sum += man.kind == 3 ? man.odds * fine : 0;
            }
            return sum;
        }

        boolean isSetOfWrong(int wrong) {
            if (wrong < 0 || wrong >= 1 << men.size()) {
                return false;
            }
            for (int m = 0; m < men.size(); m++) {
                if ((wrong >> m & 1) == 1 && men.get(m).kind == 2) {
                    return false;
                }
            }
            return true;
        }

        int fines(int wrong) {
            int before = allGoods();
            for (int m = 0; m < men.size(); m++) {
                Man bad = men.get(m);
                if ((wrong >> m & 1) == 0 || bad.kind == 3) {
                    continue;
                }
                List<Man> payers = in(bad.ten);
                payers.remove(bad);
                payers.removeIf(p -> bad.kin[men.indexOf(p)]);
                for (int i = 0; i < payers.size(); i++) {
                    int due = fine / payers.size() + (i < fine % payers.size() ? 1 : 0);
                    Man payer = payers.get(i);
                    payer.goods = Math.max(0, payer.goods - due);
                }
            }
            return before - allGoods();
        }

        int costs() {
            int before = allGoods();
            for (int t = 0; t < 4; t++) {
                int due = 0;
                for (Man man : in(t)) {
                    due += man.watched ? cost : 0;
                }
                for (Man man : in(t)) {
                    while (due > 0 && man.goods > 0) {
                        due--;
                        man.goods--;
                    }
                }
            }
            return before - allGoods();
        }

        int allGoods() {
            int sum = 0;
            for (Man man : men) {
                sum += man.goods;
            }
            return sum;
        }
    }

    State now = new State();
    final State[] images = new State[2];
    final Object[] sheets = new Object[4];
    StringBuilder tape = new StringBuilder();
    int fault;
    int torn;

    private Man get(int m) {
        return m >= 0 && m < now.men.size() ? now.men.get(m) : null;
    }

    // ---- the text

    int feed(int c) {
        if (c < 0 || c > 127) {
            return BAD;
        }
        if (tape.length() == 160) {
            return FULL;
        }
        tape.append((char) c);
        return tape.length();
    }

    int end(int n) {
        int had = tape.length();
        if (n < 0 || n > had) {
            return BAD;
        }
        tape.setLength(n);
        return had;
    }

    private static final class Refused extends Exception {
        private static final long serialVersionUID = 1;
        final int fault;
        final int place;

        Refused(int fault, int place) {
            this.fault = fault;
            this.place = place;
        }
    }

    private String text;
    private int at;
    private int start;

    /** The next token; "" is the end. */
    private String next() throws Refused {
        while (at < text.length() && text.charAt(at) == ' ') {
            at++;
        }
        start = at;
        String rest = text.substring(at);
        for (String form : new String[] {"[a-z]+", "[0-9]+", ";"}) {
            java.util.regex.Matcher found = java.util.regex.Pattern.compile(form).matcher(rest);
            if (found.lookingAt()) {
                at += found.end();
                if (form.equals("[0-9]+") && found.end() > 2) {
                    throw new Refused(1, start);
                }
                return found.group();
            }
        }
        if (!rest.isEmpty()) {
            throw new Refused(1, start);
        }
        return "";
    }

    private int number(int low, int high) throws Refused {
        String token = next();
        if (!token.matches("[0-9]+")) {
            throw new Refused(2, start);
        }
        int v = Integer.parseInt(token);
        if (v < low || v > high) {
            throw new Refused(3, start);
        }
        return v;
    }

    int text() {
        text = tape.toString();
        tape = new StringBuilder();
        at = 0;
        try {
            State told = new State();
            int lines = lines(told);
            now = told;
            images[0] = null;
            images[1] = null;
            fault = 0;
            return lines;
        } catch (Refused e) {
            fault = e.fault;
            return -10 - e.place;
        }
    }

    private int lines(State told) throws Refused {
        int lines = 0;
        boolean fineTold = false;
        boolean watchTold = false;
        boolean[] mostTold = new boolean[4];
        List<int[]> kin = new ArrayList<>();
        for (String name = next(); !name.isEmpty(); name = next()) {
            if (List.of("calm", "quarrel", "saint", "wander").contains(name)) {
                if (told.men.size() == 8) {
                    throw new Refused(5, start);
                }
                Man man = new Man();
                man.kind = List.of("calm", "quarrel", "saint", "wander").indexOf(name);
                man.odds = name.equals("saint") ? 0 : number(0, 9);
                man.goods = number(0, 99);
                man.ten = name.equals("wander") ? NONE : number(0, 3);
                told.men.add(man);
            } else if (name.equals("fine")) {
                if (fineTold) {
                    throw new Refused(4, start);
                }
                fineTold = true;
                told.fine = number(0, 99);
            } else if (name.equals("watch")) {
                if (watchTold) {
                    throw new Refused(4, start);
                }
                watchTold = true;
                told.cost = number(0, 9);
            } else if (name.equals("most")) {
                int t = number(0, 3);
                if (mostTold[t]) {
                    throw new Refused(4, start);
                }
                mostTold[t] = true;
                told.most[t] = number(1, 5);
            } else if (name.equals("kin")) {
                int m = number(0, 7);
                int n = number(0, 7);
                if (m == n) {
                    throw new Refused(3, start);
                }
                kin.add(new int[] {m, n});
            } else {
                throw new Refused(2, start);
            }
            if (!next().equals(";")) {
                throw new Refused(2, start);
            }
            lines++;
        }
        for (int[] pair : kin) {
            if (Math.max(pair[0], pair[1]) >= told.men.size()) {
                throw new Refused(6, text.length());
            }
            told.men.get(pair[0]).kin[pair[1]] = true;
            told.men.get(pair[1]).kin[pair[0]] = true;
        }
        for (int t = 0; t < 4; t++) {
            if (told.in(t).size() > told.most[t]) {
                throw new Refused(7, text.length());
            }
        }
        return lines;
    }

    int rule(int what) {
        int watched = 0;
        int wanderers = 0;
        for (int m = 0; m < now.men.size(); m++) {
            watched |= now.men.get(m).watched ? 1 << m : 0;
            wanderers |= now.men.get(m).kind == 3 ? 1 << m : 0;
        }
        int[] answers = {now.men.size(), now.fine, now.cost, now.year, watched, wanderers};
        return what < 0 || what >= answers.length ? BAD : answers[what];
    }

    int man(int m, int what) {
        Man man = get(m);
        if (man == null || what < 0 || what > 5) {
            return BAD;
        }
        int kin = 0;
        for (int n = 0; n < 8; n++) {
            kin |= man.kin[n] ? 1 << n : 0;
        }
        return new int[] {man.kind, man.odds, man.goods, man.kind == 3 ? NONE : man.ten, kin,
            now.oddsInTen(man)}[what];
    }

    int ten(int t, int what) {
        if (t < 0 || t > 3 || what < 0 || what > 3) {
            return BAD;
        }
        int set = 0;
        int goods = 0;
        for (Man man : now.in(t)) {
            set |= 1 << now.men.indexOf(man);
            goods += man.goods;
        }
        return new int[] {set, now.most[t], now.harm(t), goods}[what];
    }

    // ---- what is changed

    int move(int m, int t) {
        Man man = get(m);
        if (man == null || t < 0 || t > 3) {
            return BAD;
        }
        if (!now.in(t).contains(man) && now.in(t).size() >= now.most[t]) {
            return FULL;
        }
        int was = man.kind == 3 ? NONE : man.ten;
        man.kind = man.kind == 3 ? 0 : man.kind;
        man.ten = t;
        return was;
    }

    int leave(int m) {
        Man man = get(m);
        if (man == null) {
            return BAD;
        }
        if (man.kind == 3) {
            return STATE;
        }
        man.kind = 3;
        man.watched = false;
        return man.ten;
    }

    int swap(int m, int n) {
        Man one = get(m);
        Man other = get(n);
        if (one == null || other == null || m == n) {
            return BAD;
        }
        if (one.kind == 3 || other.kind == 3 || one.ten == other.ten) {
            return STATE;
        }
        int was = one.ten;
        one.ten = other.ten;
        other.ten = was;
        return one.ten;
    }

    int watch(int m, boolean is) {
        Man man = get(m);
        if (man == null) {
            return BAD;
        }
        if (man.kind == 3) {
            return STATE;
        }
        int was = man.watched ? 1 : 0;
        man.watched = is;
        return was;
    }

    int kin(int m, int n, boolean is) {
        if (get(m) == null || get(n) == null || m == n) {
            return BAD;
        }
        int was = get(m).kin[n] ? 1 : 0;
        get(m).kin[n] = is;
        get(n).kin[m] = is;
        return was;
    }

    int odd(int m, int v) {
        Man man = get(m);
        if (man == null || v < 0 || v > 9) {
            return BAD;
        }
        if (man.kind == 2) {
            return STATE;
        }
        int was = man.odds;
        man.odds = v;
        return was;
    }

    int law(int what, int v) {
        if (what < 0 || what > 1 || v < 0 || v > (what == 0 ? 99 : 9)) {
            return BAD;
        }
        int was = what == 0 ? now.fine : now.cost;
        now.fine = what == 0 ? v : now.fine;
        now.cost = what == 1 ? v : now.cost;
        return was;
    }

    int goods(int m, int v) {
        Man man = get(m);
        if (man == null || v < 0 || v > 99) {
            return BAD;
        }
        int was = man.goods;
        man.goods = v;
        return was;
    }

    // ---- years

    int year(int wrong) {
        if (!now.isSetOfWrong(wrong)) {
            return BAD;
        }
        if (now.year + 1 == 100) {
            return FULL;
        }
        now.year++;
        int fines = now.fines(wrong);
        return fines + now.costs();
    }

    int pays(int m, int wrong) {
        if (get(m) == null || !now.isSetOfWrong(wrong)) {
            return BAD;
        }
        State then = now.copy();
        then.fines(wrong);
        return get(m).goods - then.men.get(m).goods;
    }

    int harm() {
        return now.harm();
    }

    private static long part(java.math.BigInteger top, java.math.BigInteger bottom, int what) {
        java.math.BigInteger common = top.gcd(bottom);
        return (what == 0 ? top : bottom).divide(common).longValueExact();
    }

    long calm(int t, int what) {
        if (t < 0 || t > 3 || what < 0 || what > 1) {
            return BAD;
        }
        java.math.BigInteger top = java.math.BigInteger.ONE;
        java.math.BigInteger bottom = java.math.BigInteger.ONE;
        for (Man man : now.in(t)) {
            top = top.multiply(java.math.BigInteger.valueOf(10 - now.oddsInTen(man)));
            bottom = bottom.multiply(java.math.BigInteger.TEN);
        }
        return part(top, bottom, what);
    }

    long mean(int m, int what) {
        if (get(m) == null || what < 0 || what > 1) {
            return BAD;
        }
        java.math.BigInteger sum = java.math.BigInteger.ZERO;
        for (int wrong = 0; wrong < 1 << now.men.size(); wrong++) {
            long chance = 1;
            for (int n = 0; n < now.men.size(); n++) {
                int odds = now.oddsInTen(now.men.get(n));
                chance *= (wrong >> n & 1) == 1 ? odds : 10 - odds;
            }
            if (chance != 0) {
                sum = sum.add(java.math.BigInteger.valueOf(chance * pays(m, wrong)));
            }
        }
        return part(sum, java.math.BigInteger.TEN.pow(now.men.size()), what);
    }

    // ---- who is put where

    int best(int what) {
        if (what < 0 || what > 0 && what < 10 || what - 10 >= now.men.size()) {
            return BAD;
        }
        int least = Integer.MAX_VALUE;
        State first = null;
        State tried = now.copy();
        int all = now.men.size();
        for (int code = 0; code < 1 << 2 * all; code++) {
            boolean once = true;
            for (int m = 0; m < all; m++) {
                int t = code >> 2 * (all - 1 - m) & 3;
                if (tried.men.get(m).kind == 3) {
                    once &= t == 0;
                } else {
                    tried.men.get(m).ten = t;
                }
            }
            if (!once || tried.in(0).size() > tried.most[0] || tried.in(1).size() > tried.most[1]
                    || tried.in(2).size() > tried.most[2] || tried.in(3).size() > tried.most[3]) {
                continue;
            }
            int harm = tried.harm();
            if (harm < least) {
                least = harm;
                first = tried.copy();
            }
        }
        if (what == 0) {
            return least;
        }
        Man man = first.men.get(what - 10);
        return man.kind == 3 ? NONE : man.ten;
    }

    int change(int what) {
        if (what < 0 || what > 1) {
            return BAD;
        }
        int least = now.harm();
        int pair = NONE;
        State kept = now;
        for (int code = 0; code < 100; code++) {
            now = kept.copy();
            if (code / 10 < code % 10 && swap(code / 10, code % 10) >= 0 && now.harm() < least) {
                least = now.harm();
                pair = code;
            }
        }
        now = kept;
        return pair == NONE ? NONE : what == 0 ? pair : least;
    }

    int takes(int m) {
        if (get(m) == null) {
            return BAD;
        }
        int least = Integer.MAX_VALUE;
        int taker = NONE;
        State kept = now;
        for (int t = 0; t < 4; t++) {
            now = kept.copy();
            boolean own = get(m).kind != 3 && get(m).ten == t;
            if (!own && move(m, t) != FULL && now.harm(t) < 10 * now.fine && now.harm(t) < least) {
                least = now.harm(t);
                taker = t;
            }
        }
        now = kept;
        return taker;
    }

    int weight(int m) {
        if (get(m) == null) {
            return BAD;
        }
        if (get(m).kind == 3) {
            return STATE;
        }
        State without = now.copy();
        int t = get(m).ten;
        without.men.remove(m);
        return 1000 + now.harm(t) - without.harm(t);
    }

    // ---- a bad one

    int should(int m) {
        if (get(m) == null) {
            return BAD;
        }
        if (get(m).kind == 3) {
            return STATE;
        }
        State kept = now;
        int[] harms = new int[3];
        harms[0] = now.harm();
        now = kept.copy();
        watch(m, !get(m).watched);
        harms[1] = now.harm();
        now = kept.copy();
        leave(m);
        harms[2] = now.harm();
        now = kept;
        int least = 0;
        for (int i = 1; i < 3; i++) {
            least = harms[i] < harms[least] ? i : least;
        }
        return least;
    }

    int guard(int what) {
        if (what < 0 || what > 1) {
            return BAD;
        }
        int best = -1;
        int least = Integer.MAX_VALUE;
        State tried = now.copy();
        for (int set = 0; set < 1 << now.men.size(); set++) {
            boolean possible = true;
            for (int m = 0; m < now.men.size(); m++) {
                Man man = tried.men.get(m);
                man.watched = (set >> m & 1) == 1;
                possible &= !(man.watched && man.kind == 3);
            }
            int harm = tried.harm();
            if (possible && (harm < least
                    || harm == least && Integer.bitCount(set) < Integer.bitCount(best))) {
                least = harm;
                best = set;
            }
        }
        return what == 0 ? best : least;
    }

    int worth(int m) {
        if (get(m) == null) {
            return BAD;
        }
        if (get(m).kind == 3) {
            return STATE;
        }
        int greatest = NONE;
        State tried = now.copy();
        for (int cost = 0; cost <= 9; cost++) {
            tried.cost = cost;
            tried.men.get(m).watched = true;
            int with = tried.harm(get(m).ten);
            tried.men.get(m).watched = false;
            if (with < tried.harm(get(m).ten)) {
                greatest = cost;
            }
        }
        return greatest;
    }

    // ---- from which he ran

    int see(int m, int less) {
        if (get(m) == null || less < 0 || less > 99) {
            return BAD;
        }
        if (now.seen.size() == 6) {
            return FULL;
        }
        now.seen.add(new int[] {m, less});
        return now.seen.size();
    }

    int forget(int n) {
        int were = now.seen.size();
        if (n < 0 || n > were) {
            return BAD;
        }
        now.seen.subList(n, were).clear();
        return were;
    }

    int fits(int what) {
        if (what < 0 || what > 4) {
            return BAD;
        }
        List<Integer> sets = new ArrayList<>();
        for (int set = 0; set < 1 << now.men.size(); set++) {
            if (!now.isSetOfWrong(set)) {
                continue;
            }
            State then = now.copy();
            then.fines(set);
            then.costs();
            boolean fits = true;
            for (int[] one : now.seen) {
                fits &= get(one[0]).goods - then.men.get(one[0]).goods == one[1];
            }
            if (fits) {
                sets.add(set);
            }
        }
        if (what == 0 || sets.isEmpty()) {
            return what == 0 ? sets.size() : NONE;
        }
        int answer = 0;
        for (int m = 0; m < now.men.size(); m++) {
            boolean inAll = true;
            boolean inNone = now.men.get(m).kind != 2;
            for (int set : sets) {
                inAll &= (set >> m & 1) == 1;
                inNone &= (set >> m & 1) == 0;
            }
            answer |= (what == 2 && inAll || what == 3 && inNone) ? 1 << m : 0;
        }
        for (int t = 0; t < 4 && what == 4; t++) {
            boolean byAll = true;
            for (int set : sets) {
                boolean ran = false;
                for (Man man : now.in(t)) {
                    ran |= (set >> now.men.indexOf(man) & 1) == 1;
                }
                byAll &= ran;
            }
            answer |= byAll ? 1 << t : 0;
        }
        return what == 1 ? sets.get(0) : answer;
    }

    // ---- by a seed

    int drift(int seed, int n, int what) {
        if (n < 1 || n > 60 || what < 0 || what > 1) {
            return BAD;
        }
        State then = now.copy();
        long turned = seed & 0xffffffffL;
        int paid = 0;
        for (int i = 0; i < n; i++) {
            int wrong = 0;
            for (int m = 0; m < then.men.size(); m++) {
                turned = (turned * 1103515245L + 12345L) & 0xffffffffL;
                wrong |= turned / 65536 % 32768 % 10 < then.oddsInTen(then.men.get(m)) ? 1 << m : 0;
            }
            paid += then.fines(wrong);
            paid += then.costs();
        }
        return what == 0 ? paid : then.allGoods();
    }

    // ---- images, sheets

    int keep(int k) {
        if (k < 0 || k > 1) {
            return BAD;
        }
        int was = images[k] == null ? 0 : 1;
        images[k] = now.copy();
        return was;
    }

    int back(int k) {
        if (k < 0 || k > 1) {
            return BAD;
        }
        if (images[k] == null) {
            return STATE;
        }
        now = images[k].copy();
        return now.year;
    }

    int sheet(int k, int lane, int n) {
        if (k < 0 || k > 3 || lane < 0 || lane > 2 || n > 40) {
            return BAD;
        }
        if (n < 0) {
            return -14;
        }
        sheets[k] = lane == 0 ? new byte[n] : lane == 1 ? new short[n] : (Object) new int[n];
        return 1;
    }

    // This model may leave the FAULTS to the machine itself, which the class may not.

    int lay(int k, int i, int v) {
        if (k < 0 || k > 3) {
            return BAD;
        }
        try {
            if (sheets[k] instanceof byte[] row) {
                row[i] = (byte) v;
            } else if (sheets[k] instanceof short[] row) {
                row[i] = (short) v;
            } else {
                ((int[]) sheets[k])[i] = v;
            }
            return 1;
        } catch (NullPointerException e) {
            return -11;
        } catch (ArrayIndexOutOfBoundsException e) {
            return -12;
        }
    }

    private static int cell(Object row, int lane, int i) {
        return lane == 0 ? ((byte[]) row)[i] : lane == 1 ? ((short[]) row)[i] : ((int[]) row)[i];
    }

    int read(int k, int lane, int f, int n) {
        if (k < 0 || k > 3 || lane < 0 || lane > 2 || n < 0 || n > 20) {
            return BAD;
        }
        List<int[]> whole = new ArrayList<>();
        int found = 0;
        try {
            for (int i = 0; i < n; i++) {
                int m = cell(sheets[k], lane, f + 2 * i);
                whole.add(new int[] {m, cell(sheets[k], lane, f + 2 * i + 1)});
            }
        } catch (NullPointerException e) {
            found = 1;
        } catch (ArrayIndexOutOfBoundsException e) {
            found = 2;
        } catch (ClassCastException e) {
            found = 3;
        }
        State kept = now;
        now = kept.copy();
        for (int i = 0; i < whole.size(); i++) {
            int answer = move(whole.get(i)[0], whole.get(i)[1]);
            if (answer == BAD || answer == FULL) {
                now = kept;
                return -20 - i;
            }
        }
        torn = found;
        return whole.size();
    }

    int count(int what) {
        int inTens = 0;
        int tens = 0;
        for (int t = 0; t < 4; t++) {
            inTens += now.in(t).size();
            tens += now.in(t).isEmpty() ? 0 : 1;
        }
        int cells = sheets[0] == null ? NONE : java.lang.reflect.Array.getLength(sheets[0]);
        int kept = (images[0] == null ? 0 : 1) + (images[1] == null ? 0 : 1);
        int[] answers = {inTens, tens, now.allGoods(), now.seen.size(), kept, tape.length(), cells};
        return what < 0 || what >= answers.length ? BAD : answers[what];
    }
}
