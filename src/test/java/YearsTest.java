/** Promises 17 to 21, and 32: years, what is paid in them, and years by a seed. */
public final class YearsTest {
    private static final int BAD = TenPledges.BAD, FULL = TenPledges.FULL;
    private static final Check c = new Check();

    public static void main(String[] args) {
        fines();
        kinAndLost();
        costs();
        wrongSets();
        hundredYears();
        pays();
        harm();
        calm();
        mean();
        drift();
        c.finish();
    }

    private static void fines() {
        TenPledges x = c.told("calm 1 50 0;calm 1 50 0;calm 1 50 0;calm 1 2 0;calm 1 50 1;most 0 4;fine 11;");
        c.due("17 year(1): 4, 4, and 2 of 3", x.year(1), 10);
        c.due("17 man(1, 2): the first ones 1 more", x.man(1, 2), 46);
        c.due("17 man(2, 2)", x.man(2, 2), 46);
        c.due("17 man(3, 2): no more than he has", x.man(3, 2), 0);
        c.due("17 man(0, 2): he himself pays none", x.man(0, 2), 50);
        c.due("17 man(4, 2): of another TEN", x.man(4, 2), 50);
        c.due("17 rule(3)", x.rule(3), 1);
        c.due("17 year(8)", x.year(8), 11);
        c.due("17 man(0, 2): 4 of 4, 4, 3", x.man(0, 2), 46);
        c.due("17 man(1, 2)", x.man(1, 2), 42);
        c.due("17 man(2, 2)", x.man(2, 2), 43);
        c.due("17 year(6): those who do wrong pay, too", x.year(6), 16);
        c.due("17 man(0, 2): 4 and 4", x.man(0, 2), 38);
        c.due("17 man(1, 2): 4", x.man(1, 2), 38);
        c.due("17 man(2, 2): 4", x.man(2, 2), 39);
        c.due("17 rule(3) then", x.rule(3), 3);
        c.due("17 man(0, 3): taken back", x.man(0, 3), 0);
    }

    private static void kinAndLost() {
        TenPledges x = c.told("calm 1 50 0;calm 1 50 0;calm 1 50 0;calm 1 50 1;wander 1 50;kin 0 1;");
        c.due("17 year(1): his KIN does not pay", x.year(1), 12);
        c.due("17 man(1, 2)", x.man(1, 2), 50);
        c.due("17 man(2, 2)", x.man(2, 2), 38);
        c.due("17 year(8): alone, LOST", x.year(8), 0);
        c.due("17 year(16): a wanderer's, LOST", x.year(16), 0);
        x.kin(0, 2, true);
        c.due("17 year(1): KIN alone, LOST", x.year(1), 0);
        c.due("17 count(2)", x.count(2), 238);
        TenPledges y = c.told("calm 1 9 0;calm 1 9 0;calm 1 9 0;");
        // Man 0 takes 6 of 1 and 2; man 1 takes 6 of 0 and what is left of 2.
        c.due("17 year(3): by order", y.year(3), 21);
        c.due("17 man(0, 2)", y.man(0, 2), 3);
        c.due("17 man(1, 2)", y.man(1, 2), 3);
        c.due("17 man(2, 2)", y.man(2, 2), 0);
    }

    private static void costs() {
        TenPledges x = c.told("calm 1 3 0;calm 1 50 0;saint 4 1;calm 1 1 1;wander 1 9;watch 5;");
        x.watch(1, true);
        x.watch(0, true);
        x.watch(3, true);
        c.due("17 year(0): COSTS by order, as far as GOODS go", x.year(0), 15);
        c.due("17 man(0, 2)", x.man(0, 2), 0);
        c.due("17 man(1, 2)", x.man(1, 2), 43);
        c.due("17 man(2, 2)", x.man(2, 2), 0);
        c.due("17 man(3, 2)", x.man(3, 2), 0);
        c.due("17 man(4, 2)", x.man(4, 2), 9);
        c.due("17 year(0): TEN 1 has nothing", x.year(0), 10);
        c.due("17 year(1): FINES, then COSTS", x.year(1), 22);
    }

    private static void wrongSets() {
        TenPledges x = c.told("calm 1 3 0;saint 50 0;wander 1 1;");
        c.due("17 year(-1)", x.year(-1), BAD);
        c.due("17 year(2): a saint", x.year(2), BAD);
        c.due("17 year(7): a saint", x.year(7), BAD);
        c.due("17 year(8): no such MAN", x.year(8), BAD);
        c.due("17 year(least)", x.year(Integer.MIN_VALUE), BAD);
        c.due("17 year(256)", x.year(256), BAD);
        c.due("17 rule(3): nothing changed", x.rule(3), 0);
        c.due("17 year(5)", x.year(5), 12);
    }

    private static void hundredYears() {
        TenPledges x = c.told("calm 1 3 0;saint 50 0;");
        for (int i = 1; i <= 99; i++) {
            x.year(0);
            c.due("17 rule(3)", x.rule(3), i);
        }
        c.due("17 year(0): it would be 100", x.year(0), FULL);
        c.due("17 year(1): it would be 100", x.year(1), FULL);
        c.due("17 year(2): BAD goes before FULL", x.year(2), BAD);
        c.due("17 rule(3) then", x.rule(3), 99);
        c.due("17 man(1, 2)", x.man(1, 2), 50);
        c.due("18 pays(1, 1) in YEAR 99", x.pays(1, 1), 12);
        c.due("32 drift(1, 60, 1) in YEAR 99", x.drift(1, 60, 1) <= 53 ? 1 : 0, 1);
    }

    private static void pays() {
        TenPledges x = c.told("calm 1 50 0;calm 1 50 0;saint 5 0;wander 1 50;kin 0 3;");
        x.watch(0, true);
        c.due("18 pays(-1, 0)", x.pays(-1, 0), BAD);
        c.due("18 pays(4, 0)", x.pays(4, 0), BAD);
        c.due("18 pays(0, 4): a saint", x.pays(0, 4), BAD);
        c.due("18 pays(0, 16)", x.pays(0, 16), BAD);
        c.due("18 pays(0, -1)", x.pays(0, -1), BAD);
        c.due("18 pays(0, 0): no COSTS", x.pays(0, 0), 0);
        c.due("18 pays(0, 2)", x.pays(0, 2), 6);
        c.due("18 pays(0, 1)", x.pays(0, 1), 0);
        c.due("18 pays(2, 3): 5 is all he has", x.pays(2, 3), 5);
        c.due("18 pays(3, 11)", x.pays(3, 11), 0);
        c.due("18 count(2): nothing is paid", x.count(2), 155);
        c.due("18 rule(3)", x.rule(3), 0);
    }

    private static void harm() {
        TenPledges x = c.told("calm 3 1 0;quarrel 4 1 0;quarrel 5 1 0;quarrel 6 1 1;saint 1 1;"
                + "wander 7 1;fine 10;watch 4;");
        c.due("19 harm()", x.harm(), 10 * (3 + 5 + 6 + 6 + 7));
        x.watch(1, true);
        c.due("19 harm(): 5 is 2", x.harm(), 10 * (3 + 2 + 6 + 6 + 7) + 40);
        x.watch(4, true);
        c.due("19 harm(): a saint is watched", x.harm(), 320);
        x.leave(3);
        c.due("19 harm(): a wanderer more", x.harm(), 320);
        x.law(0, 0);
        c.due("19 harm(): COSTS alone", x.harm(), 80);
    }

    private static void calm() {
        TenPledges x = c.told("calm 5 1 0;quarrel 3 1 0;quarrel 9 1 0;saint 1 1;calm 0 1 2;");
        c.due("20 calm(-1, 0)", x.calm(-1, 0), BAD);
        c.due("20 calm(4, 0)", x.calm(4, 0), BAD);
        c.due("20 calm(0, -1)", x.calm(0, -1), BAD);
        c.due("20 calm(0, 2)", x.calm(0, 2), BAD);
        c.due("20 calm(0, 0)", x.calm(0, 0), 3);
        c.due("20 calm(0, 1)", x.calm(0, 1), 100);
        for (int t = 1; t < 4; t++) {
            c.due("20 calm(" + t + ", 0)", x.calm(t, 0), 1);
            c.due("20 calm(" + t + ", 1)", x.calm(t, 1), 1);
        }
        x.watch(2, true);
        c.due("20 calm(0, 0), one watched", x.calm(0, 0), 3);
        c.due("20 calm(0, 1), one watched", x.calm(0, 1), 20);
    }

    private static void mean() {
        TenPledges x = c.told("calm 5 1 0;calm 3 50 0;calm 1 50 0;wander 9 50;saint 50 1;calm 7 50 1;");
        c.due("21 mean(-1, 0)", x.mean(-1, 0), BAD);
        c.due("21 mean(6, 0)", x.mean(6, 0), BAD);
        c.due("21 mean(0, -1)", x.mean(0, -1), BAD);
        c.due("21 mean(0, 2)", x.mean(0, 2), BAD);
        // He has 1, which is gone unless neither of the two others does wrong: 1 - 7/10 * 9/10.
        c.due("21 mean(0, 0)", x.mean(0, 0), 37);
        c.due("21 mean(0, 1)", x.mean(0, 1), 100);
        // 6 by the first one, 6 by the third one: 6 * 5/10 + 6 * 1/10.
        c.due("21 mean(1, 0)", x.mean(1, 0), 18);
        c.due("21 mean(1, 1)", x.mean(1, 1), 5);
        c.due("21 mean(3, 0): a wanderer", x.mean(3, 0), 0);
        c.due("21 mean(3, 1): 0 is 0 by 1", x.mean(3, 1), 1);
        c.due("21 mean(4, 0): 12 * 7/10", x.mean(4, 0), 42);
        c.due("21 mean(4, 1)", x.mean(4, 1), 5);
        c.due("21 mean(5, 0): the other is a saint", x.mean(5, 0), 0);
        c.due("21 mean(5, 1)", x.mean(5, 1), 1);
        c.due("21 count(2): nothing is paid", x.count(2), 251);
    }

    private static void drift() {
        TenPledges x = c.told("calm 5 90 0;quarrel 3 80 0;saint 70 0;wander 9 60;quarrel 8 50 1;"
                + "quarrel 8 40 1;fine 3;watch 1;");
        x.watch(4, true);
        c.due("32 drift(1, 0, 0)", x.drift(1, 0, 0), BAD);
        c.due("32 drift(1, 61, 0)", x.drift(1, 61, 0), BAD);
        c.due("32 drift(1, 1, -1)", x.drift(1, 1, -1), BAD);
        c.due("32 drift(1, 1, 2)", x.drift(1, 1, 2), BAD);
        int[] seeds = {0, 1, -1, 77, Integer.MAX_VALUE, Integer.MIN_VALUE, 123456789};
        for (int seed : seeds) {
            for (int n : new int[] {1, 2, 20, 60}) {
                int before = x.count(2);
                x.keep(0);
                int paid = yearsByHand(x, seed, n);
                int left = x.count(2);
                x.back(0);
                c.due("32 drift(" + seed + ", " + n + ", 0)", x.drift(seed, n, 0), paid);
                c.due("32 drift(" + seed + ", " + n + ", 1)", x.drift(seed, n, 1), left);
                c.due("32 by itself", x.count(2), before);
                c.due("32 YEAR", x.rule(3), 0);
            }
        }
    }

    /** The same years by year(): the seed turns for saints and wanderers, too. */
    private static int yearsByHand(TenPledges x, int seed, int n) {
        long turned = seed & 0xffffffffL;
        int paid = 0;
        for (int i = 0; i < n; i++) {
            int wrong = 0;
            for (int m = 0; m < x.rule(0); m++) {
                turned = (turned * 1103515245L + 12345L) % 4294967296L;
                if (turned / 65536 % 32768 % 10 < x.man(m, 5)) {
                    wrong |= 1 << m;
                }
            }
            paid += x.year(wrong);
        }
        return paid;
    }
}
