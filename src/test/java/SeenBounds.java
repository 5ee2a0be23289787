/** Promises 29 to 31, and the terms of what is SEEN: from which he ran. */
final class SeenBounds {
    private static final int BAD = TenPledges.BAD, FULL = TenPledges.FULL, NONE = TenPledges.NONE;
    private static final String PAIR = "calm0 99 0;calm0 99 0;fine99;";

    private final Sentences s;

    SeenBounds(Sentences s) {
        this.s = s;
    }

    void all() {
        seenRow();
        fitsIf();
        see();
        seeBad();
        seeFull();
        forget();
        forgetBad();
        sets();
        leastSet();
        inAll();
        inNone();
        tensOfAll();
        fitsRefused();
    }

    // ---- the terms

    private void seenRow() {
        Run x = s.ofTerms("SEEN (6): a MAN, by how much GOODS of his were less behind a YEAR (0 to 99).");
        x.told(PAIR).due("see(1, 99)", 1).asks("fits(1)", 1).does("forget(0)").due("see(1, 98)", 1);
        x.asks("fits(0)", 0).does("forget(0)").due("see(1, 0)", 1).asks("fits(1)", 0).asks("fits(0)", 2);
        x.bad("see(1, ?)", 0, 99).does("see(0, 0)", "see(0, 0)", "see(0, 0)", "see(0, 0)");
        x.due("see(0, 0)", 6).refuses("see(0, 0)", FULL).asks("fits(0)", 1);
    }

    private void fitsIf() {
        Run x = s.ofTerms("A set of MEN FITS, if, were just these to do wrong in the next YEAR, all would "
                + "be as SEEN.").told("calm0 50 0;calm0 20 0;saint50 0;wander0 50;calm0 9 1;fine30;watch9;");
        // 15 for each of the two others, no more than he has; GOODS as they are when it is asked.
        x.does("see(1, 15)").asks("fits(2)", 1).does("goods(1, 15)").asks("fits(2)", 1);
        x.does("goods(1, 14)").asks("fits(0)", 0).does("forget(0)", "see(1, 14)").asks("fits(2)", 1);
        // 27 and 28 are 14 of the first one, 26 is 13, 29 is 15.
        x.does("goods(1, 20)", "law(0, 28)").asks("fits(2)", 1).does("law(0, 27)").asks("fits(2)", 1);
        x.does("law(0, 26)").asks("fits(0)", 0).does("law(0, 29)").asks("fits(0)", 0).does("law(0, 28)");
        // COSTS are less GOODS, too: 9 of the first one by order.
        x.does("watch(2, true)", "forget(0)", "see(0, 9)").asks("fits(3)", 2).does("watch(4, true)");
        x.does("see(4, 9)").asks("fits(0)", 8).does("goods(4, 8)").asks("fits(0)", 0);
        // All of them have to be as SEEN, also of one MAN.
        Run y = x.anew().told(PAIR).does("see(0, 99)", "see(1, 99)").asks("fits(1)", 3).does("see(0, 99)");
        y.asks("fits(1)", 3).does("see(0, 0)").asks("fits(0)", 0).does("forget(3)").asks("fits(0)", 1);
    }

    // ---- the promises

    private void see() {
        Run x = s.of(29, "SEEN: a MAN, how much less GOODS (0 to 99): how many are.").busy();
        x.due("see(0, 0)", 3).due("see(5, 99)", 4).due("see(4, 0)", 5).due("see(3, 99)", 6);
        x.due("count(3)", 6);
    }

    private void seeBad() {
        Run x = s.of(29, "BAD;").busy().bad("see(?, 0)", 0, 5).bad("see(0, ?)", 0, 99)
                .refuses("see(6, 100)", BAD);
        x.anew().bad("see(?, 0)", 0, -1);
    }

    private void seeFull() {
        Run x = s.of(29, "FULL.").told(PAIR);
        for (int n = 1; n <= 6; n++) {
            x.due("see(1, 99)", n);
        }
        x.refuses("see(1, 99)", FULL).refuses("see(0, 0)", FULL).refuses("see(2, 0)", BAD)
                .bad("see(0, ?)", 0, 99);
        x.due("count(3)", 6).due("forget(5)", 6).due("see(0, 0)", 6).refuses("see(0, 0)", FULL);
        x.asks("fits(1)", 1).asks("fits(0)", 1);
    }

    private void forget() {
        Run x = s.of(30, "SEEN are the first n alone: how many there were.").due("forget(0)", 0).told(PAIR);
        x.does("see(1, 99)", "see(0, 99)", "see(0, 1)").asks("fits(0)", 0).asks("forget(3)", 3);
        x.due("forget(2)", 3).asks("fits(1)", 3).due("forget(1)", 2).asks("fits(1)", 1);
        x.asks("fits(0)", 2).due("forget(0)", 1).asks("fits(0)", 4).due("forget(0)", 0).due("see(0, 0)", 1);
        x.does("see(0, 0)", "see(0, 0)", "see(0, 0)", "see(0, 0)", "see(0, 0)").asks("forget(6)", 6);
        x.due("forget(0)", 6).due("count(3)", 0);
    }

    private void forgetBad() {
        Run x = s.of(30, "BAD.").busy().bad("forget(?)", 0, 2).does("forget(0)").bad("forget(?)", 0, 0);
        x.does("see(0, 0)", "see(0, 0)", "see(0, 0)", "see(0, 0)", "see(0, 0)", "see(0, 0)");
        x.bad("forget(?)", 0, 6).anew().bad("forget(?)", 0, 0);
    }

    private void sets() {
        Run x = s.of(31, "Sets (without saints) that FIT: how many (what 0)").asks("fits(0)", 1);
        String wanderers = "wander0 0;wander0 0;wander0 0;wander0 0;wander0 0;wander0 0;wander0 0;";
        x.told(wanderers + "wander0 0;").asks("fits(0)", 256).does("see(7, 0)").asks("fits(0)", 256);
        x.does("see(7, 1)").asks("fits(0)", 0);
        x.anew().told(wanderers + "saint0 0;").asks("fits(0)", 128);
        x.anew().told("saint0 0;saint0 0;saint0 0;saint0 1;saint0 1;saint0 1;").asks("fits(0)", 1);
        // The saint cannot have been it, so it was the other one.
        x.anew().told("saint50 0;calm0 50 0;calm0 50 0;").does("see(1, 6)").asks("fits(1)", 4)
                .asks("fits(0)", 2);
    }

    /** All of eight have to have run: each pays for one other, or for two others. */
    private Run allOfEight(Run x) {
        x.told("calm0 50 0;calm0 50 0;calm0 50 0;calm0 50 1;calm0 50 1;calm0 50 1;calm0 50 3;calm0 50 3;");
        return x.does("see(0, 12)", "see(1, 12)", "see(3, 12)", "see(4, 12)", "see(6, 12)", "see(7, 12)");
    }

    private void leastSet() {
        Run x = s.of(31, "the least by bits (1)").asks("fits(1)", 0);
        allOfEight(x).asks("fits(0)", 1).asks("fits(1)", 255).does("forget(5)").asks("fits(1)", 191);
        x.asks("fits(0)", 2).does("forget(0)").asks("fits(1)", 0).does("see(7, 12)").asks("fits(1)", 64);
        x.does("forget(0)", "see(6, 12)").asks("fits(1)", 128);
    }

    private void inAll() {
        Run x = s.of(31, ", MEN in all of them (2)").asks("fits(2)", 0);
        allOfEight(x).asks("fits(2)", 255).does("forget(5)").asks("fits(2)", 191).does("forget(1)");
        x.asks("fits(2)", 6).does("forget(0)").asks("fits(2)", 0).does("see(0, 6)").asks("fits(2)", 0);
    }

    private void inNone() {
        Run x = s.of(31, ", in none, saints aside (3; bits)").asks("fits(3)", 0);
        x.told("calm0 50 0;calm0 50 0;saint50 0;wander0 50;calm0 50 3;").asks("fits(3)", 0);
        x.does("see(2, 0)").asks("fits(3)", 3).does("see(0, 0)").asks("fits(3)", 3)
                .does("forget(0)", "see(0, 0)");
        x.asks("fits(3)", 2).does("forget(0)", "see(2, 6)").asks("fits(3)", 0);
        Run y = allOfEight(x.anew()).asks("fits(3)", 0)
                .does("forget(0)", "see(0, 0)", "see(1, 0)", "see(3, 0)");
        y.does("see(4, 0)", "see(6, 0)", "see(7, 0)").asks("fits(3)", 255).asks("fits(0)", 1);
    }

    private void tensOfAll() {
        Run x = s.of(31, ", TENS from which somebody ran by all of them (4; bits).").asks("fits(4)", 0);
        allOfEight(x).asks("fits(4)", 11).does("forget(4)").asks("fits(4)", 3).does("forget(0)")
                .asks("fits(4)", 0);
        // One or the other: the TEN is alike. A wanderer ran from none.
        x.does("see(3, 6)").asks("fits(2)", 0).asks("fits(4)", 2).does("forget(0)", "see(6, 12)");
        x.asks("fits(4)", 8).does("swap(6, 0)").asks("fits(2)", 6).asks("fits(4)", 1);
        x.does("leave(1)", "see(2, 0)").asks("fits(2)", 4).asks("fits(3)", 64).asks("fits(4)", 1);
        Run y = x.anew().told("wander0 9;calm0 9 2;calm0 9 2;").does("see(0, 0)").asks("fits(4)", 0);
        y.does("see(1, 9)").asks("fits(4)", 4).does("forget(0)").asks("fits(4)", 0);
        Run z = x.anew().told("calm0 9 3;saint9 3;calm0 9 0;saint9 0;").does("see(1, 9)").asks("fits(4)", 8);
        z.does("see(3, 9)").asks("fits(4)", 9).does("forget(0)", "see(1, 0)").asks("fits(4)", 0);
    }

    private void fitsRefused() {
        Run x = s.of(31, "BAD;").busy().bad("fits(?)", 0, 4).does("see(4, 1)").bad("fits(?)", 0, 4);
        x.anew().bad("fits(?)", 0, 4);
        Run y = s.of(31, "NONE (1 to 4): there is none.").busy().does("see(4, 1)").asks("fits(0)", 0);
        for (int what = 1; what <= 4; what++) {
            y.refuses("fits(" + what + ")", NONE);
        }
    }
}
