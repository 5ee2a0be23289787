/** Promises 17 to 21 and 32, and the terms of a YEAR, of HARM. */
final class YearsBounds {
    private static final int BAD = TenPledges.BAD, FULL = TenPledges.FULL;
    private static final String FIVE = "calm0 50 0;calm0 50 0;calm0 50 0;calm0 50 0;calm0 50 0;most0 5;";

    private final Sentences s;

    YearsBounds(Sentences s) {
        this.s = s;
    }

    void all() {
        runs();
        othersPay();
        shares();
        noMoreThanGoods();
        noneToPay();
        wanderersFine();
        costs();
        yearIsMore();
        harmOfTen();
        harmOfAll();
        yearSets();
        yearPaid();
        yearBad();
        yearFull();
        pays();
        paysBad();
        harm();
        calm();
        calmBad();
        mean();
        meanBad();
        driftYears();
        driftSeed();
        driftWrong();
        driftAnswers();
        driftBad();
    }

    // ---- the terms

    private void runs() {
        Run x = s.ofTerms("A YEAR, in which some do wrong (bits): each of them, by order, runs (and is "
                + "taken back behind it);").told(FIVE + "fine4;");
        x.due("year(0)", 0).due("year(1)", 4).dueEach("man(?, 2)", 50, 49, 49, 49, 49);
        x.due("year(16)", 4).dueEach("man(?, 2)", 49, 48, 48, 48, 49).dueEach("man(?, 3)", 0, 0, 0, 0, 0);
        x.due("year(31)", 20).dueEach("man(?, 2)", 45, 44, 44, 44, 45).dueEach("man(?, 0)", 0, 0, 0, 0, 0);
        x.due("ten(0, 0)", 31);
    }

    private void othersPay() {
        Run x = s.ofTerms("the others of his TEN but his KIN (those who do wrong, too) pay FINE:");
        x.told("calm0 50 0;calm0 50 0;saint50 0;calm0 50 1;wander0 50;kin0 3;fine10;");
        x.due("year(1)", 10).dueEach("man(?, 2)", 50, 45, 45, 50, 50);
        x.does("kin(0, 1, true)").due("year(1)", 10).dueEach("man(?, 2)", 50, 45, 35, 50, 50);
        // Both do wrong, and are no KIN: each pays for the other one, too.
        x.does("kin(0, 1, false)").due("year(3)", 20).dueEach("man(?, 2)", 45, 40, 25, 50, 50);
        x.does("kin(0, 1, true)").due("year(3)", 20).dueEach("man(?, 2)", 45, 40, 5, 50, 50);
    }

    private void shares() {
        Run x = s.ofTerms("each as much as FINE by their number (down), the first ones by order 1 more as "
                + "far as it does not go even").told(FIVE);
        int[] fines = {0, 1, 2, 3, 4, 5, 7, 8, 97, 99};
        long[][] wants = {{0, 0, 0, 0}, {1, 0, 0, 0}, {1, 1, 0, 0}, {1, 1, 1, 0}, {1, 1, 1, 1},
            {2, 1, 1, 1}, {2, 2, 2, 1}, {2, 2, 2, 2}, {25, 24, 24, 24}, {25, 25, 25, 24}};
        for (int i = 0; i < fines.length; i++) {
            x.does("law(0, " + fines[i] + ")").dueEach("pays(?, 16)", wants[i]);
            for (int m = 1; m < 5; m++) {
                x.due("pays(" + m + ", 1)", wants[i][m - 1]);
            }
        }
        // The one in the midst is left out: the next one by order has his share.
        x.does("law(0, 6)").dueEach("pays(?, 2)", 2, 0, 2, 1, 1);
        x.does("kin(1, 0, true)", "kin(1, 3, true)", "law(0, 7)").dueEach("pays(?, 2)", 0, 0, 4, 0, 3);
        x.does("kin(1, 4, true)").dueEach("pays(?, 2)", 0, 0, 7, 0, 0).due("year(2)", 7);
    }

    private void noMoreThanGoods() {
        Run x = s.ofTerms(", none more than his GOODS.");
        x.told("calm0 9 0;calm0 6 0;calm0 50 0;").due("year(1)", 12).dueEach("man(?, 2)", 9, 0, 44);
        // 6 of nothing, which nobody pays in his place.
        x.due("year(1)", 6).dueEach("man(?, 2)", 9, 0, 38).does("goods(1, 5)");
        x.due("year(1)", 11).dueEach("man(?, 2)", 9, 0, 32).does("goods(1, 7)");
        x.due("year(1)", 12).dueEach("man(?, 2)", 9, 1, 26).due("year(5)", 13).dueEach("man(?, 2)", 3, 0, 20);
    }

    private void noneToPay() {
        Run x = s.ofTerms("Are there none to pay, it is LOST.");
        x.told("calm0 50 0;calm0 50 0;calm0 50 1;kin0 1;").due("year(4)", 0).due("year(1)", 0);
        x.due("year(7)", 0).due("count(2)", 150).does("kin(0, 1, false)").due("year(1)", 12);
    }

    private void wanderersFine() {
        Run x = s.ofTerms("A wanderer's FINE is LOST.").told("wander0 50;wander0 50;calm0 50 0;calm0 50 0;");
        x.due("year(1)", 0).due("year(3)", 0).due("count(2)", 200).does("leave(2)").due("year(4)", 0);
        x.due("year(12)", 0).does("move(2, 0)").due("year(4)", 12);
    }

    private void costs() {
        Run x = s.ofTerms("Then each TEN pays COST for each man of it who is watched, all at once: out of "
                + "the GOODS of its men, by order, as far as they go.");
        x.told("calm0 5 0;calm0 9 0;calm0 50 1;calm0 4 2;saint3 2;wander0 50;watch4;").due("year(0)", 0);
        x.does("watch(1, true)").due("year(0)", 4).dueEach("man(?, 2)", 1, 9, 50, 4, 3, 50);
        // 1 of the first, 3 of the second; 8 is 3 more than they have, and no other TEN pays it.
        x.due("year(0)", 4).dueEach("man(?, 2)", 0, 6, 50, 4, 3, 50).does("watch(0, true)");
        x.due("year(0)", 6).dueEach("man(?, 2)", 0, 0, 50, 4, 3, 50).due("year(0)", 0);
        x.does("watch(3, true)").due("year(0)", 4).dueEach("man(?, 2)", 0, 0, 50, 0, 3, 50);
        // FINES go first: 12 leaves 3 less than COST.
        x.does("goods(3, 5)", "goods(4, 13)", "watch(4, true)").due("year(8)", 18);
        x.dueEach("man(?, 2)", 0, 0, 50, 0, 0, 50).does("law(1, 0)", "goods(0, 9)").due("year(0)", 0);
        x.does("law(1, 9)").due("year(0)", 9).dueEach("man(?, 2)", 0, 0, 50, 0, 0, 50);
    }

    private void yearIsMore() {
        Run x = s.ofTerms("YEAR is 1 more.").due("year(0)", 0).due("rule(3)", 1).told("calm0 9 0;");
        x.due("rule(3)", 0).due("year(1)", 0).due("rule(3)", 1).due("year(0)", 0).due("rule(3)", 2);
        x.refuses("year(2)", BAD).due("rule(3)", 2);
    }

    private void harmOfTen() {
        Run x = s.ofTerms("HARM of a TEN: for all its men ODDS IN A TEN summed, times FINE, and 10 times "
                + "COST for each who is watched (tenths).");
        x.told("calm0 9 0;calm9 9 1;saint9 1;quarrel9 9 2;quarrel9 9 2;saint9 3;wander9 9;fine99;watch9;");
        x.asks("ten(0, 2)", 0).asks("ten(1, 2)", 891).asks("ten(2, 2)", 1782).asks("ten(3, 2)", 0);
        x.does("watch(0, true)", "watch(2, true)", "watch(3, true)", "watch(5, true)");
        x.asks("ten(0, 2)", 90).asks("ten(1, 2)", 981).asks("ten(2, 2)", 14 * 99 + 90);
        x.asks("ten(3, 2)", 90).does("law(0, 0)").dueEach("ten(?, 2)", 90, 90, 90, 90);
        x.does("law(1, 0)").dueEach("ten(?, 2)", 0, 0, 0, 0);
    }

    private void harmOfAll() {
        Run x = s.ofTerms("HARM OF ALL: that of all TENS; wanderers add their ODDS times FINE.");
        x.asks("harm()", 0).told("calm1 9 0;calm2 9 1;calm3 9 2;calm4 9 3;wander5 9;wander9 9;fine7;");
        x.asks("harm()", 24 * 7).does("watch(0, true)").asks("harm()", 23 * 7 + 20).does("leave(0)");
        x.asks("harm()", 24 * 7).does("law(0, 0)").asks("harm()", 0).does("watch(3, true)");
        x.asks("harm()", 20);
    }

    // ---- the promises

    private void yearSets() {
        Run x = s.of(17, "A YEAR in which just these do wrong (bits; no saints):").busy();
        x.bad("year(?)", 0, 63).refuses("year(8)", BAD).refuses("year(63)", BAD).refuses("year(9)", BAD);
        x.refuses("year(64)", BAD).refuses("year(128)", BAD).refuses("year(256)", BAD);
        // 0 and 1 pay 11 for each other, the saint all his 10 for 2, nobody for 4 and 5; COST in two TENS.
        x.due("year(55)", 11 + 11 + 10 + 3 + 3).due("rule(3)", 2);
        String eight = "wander0 1;wander0 1;wander0 1;wander0 1;wander0 1;wander0 1;calm0 1 0;calm0 9 0;";
        x.anew().told(eight).bad("year(?)", 0, 255).due("year(255)", 10).due("year(128)", 0);
    }

    private void yearPaid() {
        Run x = s.of(17, "how much is paid in all, FINES and COSTS.").due("year(0)", 0);
        x.told(FIVE).due("year(31)", 60).does("watch(0, true)").due("year(1)", 14);
        x.due("year(0)", 2).due("count(2)", 250 - 76);
    }

    private void yearBad() {
        Run x = s.of(17, "BAD;").bad("year(?)", 0, 0).busy().bad("year(?)", 0, 63);
        x.refuses("year(8)", BAD).refuses("year(63)", BAD).refuses("year(-2147483647)", BAD);
    }

    private void yearFull() {
        Run x = s.of(17, "FULL: YEAR would be 100.").told("calm0 50 0;saint50 0;");
        for (int year = 1; year <= 99; year++) {
            x.due("year(0)", 0).due("rule(3)", year);
        }
        x.refuses("year(0)", FULL).refuses("year(1)", FULL).refuses("year(2)", BAD).bad("year(?)", 0, 1);
        x.asks("pays(1, 1)", 12).asks("fits(0)", 2).asks("drift(1, 60, 1)", 100).asks("mean(1, 0)", 0);
        x.due("keep(0)", 0).due("back(0)", 99).refuses("year(0)", FULL).told("calm0 50 0;");
        x.due("year(0)", 0).due("rule(3)", 1);
    }

    private void pays() {
        Run x = s.of(18, "What a MAN would pay of FINES in a YEAR in which just these do wrong.");
        x.told("calm0 50 0;calm0 6 0;saint50 0;wander0 50;calm0 50 1;").does("watch(0, true)");
        x.asks("pays(0, 0)", 0).asks("pays(0, 1)", 0).asks("pays(0, 2)", 6).asks("pays(2, 3)", 12);
        x.asks("pays(1, 1)", 6).does("goods(1, 5)").asks("pays(1, 1)", 5).does("goods(1, 0)");
        x.asks("pays(1, 1)", 0).asks("pays(3, 27)", 0).asks("pays(4, 27)", 0).asks("pays(0, 27)", 6);
    }

    private void paysBad() {
        Run x = s.of(18, "BAD.").busy().bad("pays(?, 1)", 0, 5).bad("pays(0, ?)", 0, 63);
        x.refuses("pays(0, 8)", BAD).refuses("pays(3, 63)", BAD).refuses("pays(6, 8)", BAD);
        x.asks("pays(0, 55)", 11).asks("pays(5, 55)", 0);
    }

    private void harm() {
        Run x = s.of(19, "HARM OF ALL (tenths).").asks("harm()", 0).busy();
        x.asks("harm()", 96 + 52 + 77 + 66).told("fine0;").told("wander9 9;fine99;").asks("harm()", 891);
        String most = "quarrel9 0 0;quarrel9 0 0;quarrel9 0 0;quarrel9 0 0;quarrel9 0 0;calm9 0 1;calm9 0 1;"
                + "calm9 0 1;most0 5;fine99;watch9;";
        Run y = x.anew().told(most).asks("harm()", 72 * 99);
        for (int m = 0; m < 8; m++) {
            y.does("watch(" + m + ", true)");
        }
        y.asks("harm()", (5 * 6 + 3 * 4) * 99 + 8 * 90);
    }

    private void calm() {
        Run x = s.of(20, "ODDS IN A TEN, each by itself, the others being as they are: that nobody of a TEN "
                + "does wrong in a YEAR: 0, 1.");
        x.told("quarrel8 0 0;quarrel8 0 0;quarrel8 0 0;calm0 0 1;saint0 1;calm9 0 2;wander9 0;");
        x.asks("calm(0, 0)", 1).asks("calm(0, 1)", 1000).asks("calm(1, 0)", 1).asks("calm(1, 1)", 1);
        x.asks("calm(2, 0)", 1).asks("calm(2, 1)", 10).asks("calm(3, 0)", 1).asks("calm(3, 1)", 1);
        // 10 by 2, twice, and 9: 5 and 5 and 1 of 1000.
        x.does("watch(0, true)", "watch(1, true)").asks("calm(0, 0)", 1).asks("calm(0, 1)", 40);
    }

    private void calmBad() {
        Run x = s.of(20, "BAD.").busy().bad("calm(?, 0)", 0, 3).bad("calm(?, 1)", 0, 3);
        x.bad("calm(0, ?)", 0, 1).bad("calm(3, ?)", 0, 1).refuses("calm(4, 2)", BAD);
    }

    private void mean() {
        Run x = s.of(21, "The mean of what a MAN pays of FINES in a YEAR (all do wrong by ODDS IN A TEN, "
                + "each by itself): 0, 1.");
        x.told("calm9 99 0;calm9 99 0;calm9 99 0;calm9 99 0;calm9 99 0;calm9 99 1;wander9 99;fine99;"
                + "most0 5;");
        // 25 for each of four, by 9 of 10; but 99, if all four do wrong: 90 less 6561 of 10000.
        x.asks("mean(0, 0)", 893439).asks("mean(0, 1)", 10000);
        // As the last he pays 24 for each: 96 by 9 of 10.
        x.asks("mean(4, 0)", 432).asks("mean(4, 1)", 5);
        x.asks("mean(5, 0)", 0).asks("mean(5, 1)", 1).asks("mean(6, 0)", 0).asks("mean(6, 1)", 1);
        x.does("goods(4, 0)").asks("mean(4, 0)", 0).asks("mean(4, 1)", 1).does("goods(4, 1)");
        x.asks("mean(4, 0)", 9999).asks("mean(4, 1)", 10000).does("law(0, 0)").asks("mean(4, 0)", 0);
        Run y = x.anew().told("saint99 0;quarrel9 99 0;quarrel3 99 0;").does("watch(1, true)");
        // 6 for 10 by 2, 6 for 4 of 10.
        y.asks("mean(0, 0)", 27).asks("mean(0, 1)", 5).asks("mean(1, 0)", 12).asks("mean(1, 1)", 5);
        y.asks("mean(2, 0)", 3).asks("mean(2, 1)", 1);
    }

    private void meanBad() {
        Run x = s.of(21, "BAD.").busy().bad("mean(?, 0)", 0, 5).bad("mean(?, 1)", 0, 5);
        x.bad("mean(0, ?)", 0, 1).bad("mean(4, ?)", 0, 1).refuses("mean(6, 2)", BAD);
    }

    // ---- promise 32

    private void driftYears() {
        Run x = s.of(32, "By itself, n YEARS (1 to 60) by a seed:").told("saint99 0;watch1;");
        x.does("watch(0, true)").bad("drift(5, ?, 0)", 1, 60).bad("drift(5, ?, 1)", 1, 60);
        // No seed makes a saint do wrong: COST 1 in each YEAR.
        x.asks("drift(5, 1, 0)", 1).asks("drift(5, 2, 0)", 2).asks("drift(5, 60, 0)", 60);
        x.asks("drift(5, 60, 1)", 39).asks("drift(5, 1, 1)", 98).asks("drift(-5, 60, 1)", 39);
    }

    private void driftSeed() {
        Run x = s.of(32, "in each for each MAN by order the seed becomes seed times 1103515245 and 12345;");
        // Bits 16 to 30 modulo 10, of seed 0: 0, 8, 8, 7, 8, 7, 5, 1; of -1: 9, 9, 2, 8, 3, 6, 0, 3. The
        // saint has those of the second, fourth .. place.
        x.told("calm8 0 0;saint99 0;fine1;");
        x.asks("drift(0, 1, 0)", 1).asks("drift(0, 3, 0)", 1).asks("drift(0, 4, 0)", 2);
        x.asks("drift(-1, 1, 0)", 0).asks("drift(-1, 2, 0)", 1).asks("drift(-1, 4, 0)", 3);
        // It wraps around: the bit 31 of a seed never comes down to the others.
        x.asks("drift(-2147483648, 4, 0)", 2).asks("drift(2147483647, 4, 0)", 3);
        // Here the saint, and then a wanderer ahead of him, have their places by order, too.
        Run y = x.anew().told("saint99 0;calm8 0 0;fine1;");
        y.asks("drift(0, 1, 0)", 0).asks("drift(0, 2, 0)", 1).asks("drift(0, 4, 0)", 3);
        Run z = x.anew().told("wander9 0;saint99 0;calm8 0 0;saint99 1;fine1;");
        z.asks("drift(0, 1, 0)", 0).asks("drift(0, 2, 0)", 1).asks("drift(-1, 1, 0)", 1);
    }

    private void driftWrong() {
        Run x = s.of(32, "he does wrong, if bits 16 to 30 of it modulo 10 are below ODDS IN A TEN:");
        x.told("calm0 0 0;saint99 0;fine1;");
        // The first bits by these seeds are 0 to 9; of five of them bit 31 is set, which does not count.
        int[] seeds = {0, 11, 9, 10, 7, 5, 6, 3, 1, 16};
        for (int bits = 0; bits <= 9; bits++) {
            for (int odds = 0; odds <= 9; odds++) {
                x.does("odd(0, " + odds + ")").due("drift(" + seeds[bits] + ", 1, 0)", bits < odds ? 1 : 0);
            }
        }
        Run y = x.anew().told("quarrel0 0 0;quarrel8 0 0;saint99 0;fine1;kin0 1;");
        // 0 is below 1, 8 is below 9 by the other one; it is not below 4, if he is watched.
        y.asks("drift(0, 1, 0)", 2).does("watch(1, true)", "law(1, 0)").asks("drift(0, 1, 0)", 1);
        y.does("watch(0, true)").asks("drift(0, 1, 0)", 0);
    }

    private void driftAnswers() {
        Run x = s.of(32, "how much is paid in all (what 0), all GOODS in the end (1).");
        x.told("calm9 50 0;saint20 0;wander9 30;fine5;watch2;").does("watch(0, true)");
        // 0, 7, 5 with ODDS 9 by 2: once FINE, three times COST.
        x.asks("drift(0, 3, 0)", 11).asks("drift(0, 3, 1)", 89);
        Run y = x.anew().told("calm9 0 0;saint3 0;fine2;").asks("drift(0, 1, 0)", 2)
                .asks("drift(0, 1, 1)", 1);
        y.asks("drift(0, 2, 0)", 3).asks("drift(0, 60, 0)", 3).asks("drift(0, 60, 1)", 0);
    }

    private void driftBad() {
        Run x = s.of(32, "BAD.").busy().bad("drift(0, ?, 0)", 1, 60).bad("drift(0, 1, ?)", 0, 1);
        x.bad("drift(-1, 60, ?)", 0, 1).refuses("drift(0, 0, 2)", BAD).refuses("drift(0, 61, 2)", BAD);
    }
}
