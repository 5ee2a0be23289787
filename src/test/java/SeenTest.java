/** Promises 29 to 31: what was SEEN, and which sets FIT it. */
public final class SeenTest {
    private static final int BAD = TenPledges.BAD, FULL = TenPledges.FULL, NONE = TenPledges.NONE;
    private static final Check c = new Check();

    public static void main(String[] args) {
        seeing();
        forgetting();
        fitting();
        fittingCosts();
        c.finish();
    }

    private static void seeing() {
        TenPledges x = c.told("calm 1 50 0;wander 1 50;");
        c.due("29 see(-1, 0)", x.see(-1, 0), BAD);
        c.due("29 see(2, 0)", x.see(2, 0), BAD);
        c.due("29 see(0, -1)", x.see(0, -1), BAD);
        c.due("29 see(0, 100)", x.see(0, 100), BAD);
        c.due("29 see(0, 99)", x.see(0, 99), 1);
        c.due("29 see(0, 0): one MAN twice", x.see(0, 0), 2);
        for (int i = 3; i <= 6; i++) {
            c.due("29 see(1, 0)", x.see(1, 0), i);
        }
        c.due("29 see(1, 0) for the 7th time", x.see(1, 0), FULL);
        c.due("29 see(2, 0): BAD goes before FULL", x.see(2, 0), BAD);
        c.due("29 count(3)", x.count(3), 6);
        c.due("29 fits(0): 99 and 0 of one MAN", x.fits(0), 0);
    }

    private static void forgetting() {
        TenPledges x = c.told("calm 1 50 0;calm 1 50 0;");
        c.due("30 forget(1) of nothing", x.forget(1), BAD);
        c.due("30 forget(0) of nothing", x.forget(0), 0);
        x.see(0, 12);
        x.see(1, 1);
        c.due("30 fits(0)", x.fits(0), 0);
        c.due("30 forget(-1)", x.forget(-1), BAD);
        c.due("30 forget(3)", x.forget(3), BAD);
        c.due("30 forget(2)", x.forget(2), 2);
        c.due("30 forget(1): the first one stays", x.forget(1), 2);
        c.due("30 count(3)", x.count(3), 1);
        c.due("30 fits(1): the second one ran", x.fits(1), 2);
    }

    private static void fitting() {
        TenPledges x = c.told("calm 1 50 0;calm 1 50 0;calm 1 50 0;saint 50 1;calm 1 50 1;wander 1 50;");
        c.due("31 fits(-1)", x.fits(-1), BAD);
        c.due("31 fits(5)", x.fits(5), BAD);
        c.due("31 fits(0): nothing SEEN, all sets without the saint", x.fits(0), 32);
        c.due("31 fits(1)", x.fits(1), 0);
        c.due("31 fits(2)", x.fits(2), 0);
        c.due("31 fits(3)", x.fits(3), 0);
        c.due("31 fits(4)", x.fits(4), 0);
        x.see(0, 6);
        // Either 1 or 2 ran; 0 himself may have, who cannot be seen by his own GOODS.
        c.due("31 fits(0)", x.fits(0), 16);
        c.due("31 fits(1)", x.fits(1), 2);
        c.due("31 fits(2)", x.fits(2), 0);
        c.due("31 fits(3)", x.fits(3), 0);
        c.due("31 fits(4): whoever it was, TEN 0", x.fits(4), 1);
        x.see(1, 6);
        x.see(3, 0);
        // 2 alone, or 0 and 1, of TEN 0; nobody of TEN 1.
        c.due("31 fits(0)", x.fits(0), 4);
        c.due("31 fits(1)", x.fits(1), 3);
        c.due("31 fits(3)", x.fits(3), 16);
        c.due("31 fits(4)", x.fits(4), 1);
        x.see(2, 0);
        c.due("31 fits(0)", x.fits(0), 2);
        c.due("31 fits(1)", x.fits(1), 4);
        c.due("31 fits(2)", x.fits(2), 4);
        c.due("31 fits(3)", x.fits(3), 19);
        x.see(5, 1);
        c.due("31 fits(0): a wanderer pays none", x.fits(0), 0);
        for (int what = 1; what <= 4; what++) {
            c.due("31 fits(" + what + ")", x.fits(what), NONE);
        }
        c.due("31 rule(3): nothing changed", x.rule(3), 0);
        c.due("31 count(2)", x.count(2), 300);
    }

    private static void fittingCosts() {
        TenPledges x = c.told("calm 1 50 0;calm 1 50 0;calm 1 50 1;");
        x.watch(1, true);
        x.see(0, 2);
        c.due("31 fits(0): COSTS count", x.fits(0), 4);
        c.due("31 fits(1)", x.fits(1), 0);
        c.due("31 fits(3): the other one did not run", x.fits(3), 2);
        x.forget(0);
        x.see(0, 14);
        c.due("31 fits(2)", x.fits(2), 2);
        c.due("31 fits(4)", x.fits(4), 1);
        x.forget(0);
        x.see(0, 12);
        c.due("31 fits(0)", x.fits(0), 0);
        x.forget(0);
        x.see(1, 12);
        c.due("31 fits(2): the first one ran", x.fits(2), 1);
        c.due("31 fits(4): from TEN 0", x.fits(4), 1);
    }
}
