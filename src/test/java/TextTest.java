/** Promises 1 to 8: a new object, THE TAPE and its text, what is asked of MEN and TENS. */
public final class TextTest {
    private static final int BAD = TenPledges.BAD, FULL = TenPledges.FULL, NONE = TenPledges.NONE;
    private static final Check c = new Check();

    public static void main(String[] args) {
        newObject();
        feeding();
        ending();
        takenTexts();
        tokens();
        refusedTexts();
        tellsAll();
        rules();
        men();
        tens();
        c.finish();
    }

    private static void newObject() {
        TenPledges x = new TenPledges();
        int[] rules = {0, 12, 2, 0, 0, 0};
        for (int what = 0; what < 6; what++) {
            c.due("1 rule(" + what + ")", x.rule(what), rules[what]);
        }
        int[] counts = {0, 0, 0, 0, 0, 0, NONE};
        for (int what = 0; what < 7; what++) {
            c.due("1 count(" + what + ")", x.count(what), counts[what]);
        }
        for (int t = 0; t < 4; t++) {
            c.due("1 ten(" + t + ", 0)", x.ten(t, 0), 0);
            c.due("1 ten(" + t + ", 1)", x.ten(t, 1), 3);
        }
        c.due("1 man(0, 0)", x.man(0, 0), BAD);
        c.due("1 fault()", x.fault(), 0);
        c.due("1 torn()", x.torn(), 0);
        c.due("1 harm()", x.harm(), 0);
        c.due("1 back(0)", x.back(0), TenPledges.STATE);
        for (int k = 0; k < 4; k++) {
            c.due("1 lay(" + k + ", 0, 0)", x.lay(k, 0, 0), -11);
        }
        c.due("1 fits(0): the empty set", x.fits(0), 1);
        c.due("1 fits(4)", x.fits(4), 0);
        c.due("1 best(0)", x.best(0), 0);
        c.due("1 best(10)", x.best(10), BAD);
        c.due("1 year(0)", x.year(0), 0);
        c.due("1 year(1)", x.year(1), BAD);
        c.due("1 text() of nothing", x.text(), 0);
    }

    private static void feeding() {
        TenPledges x = new TenPledges();
        c.due("2 feed(-1)", x.feed(-1), BAD);
        c.due("2 feed(128)", x.feed(128), BAD);
        c.due("2 feed(0)", x.feed(0), 1);
        c.due("2 feed(127)", x.feed(127), 2);
        for (int i = 3; i <= 160; i++) {
            c.due("2 feed(32) as " + i + ".", x.feed(32), i);
        }
        c.due("2 feed(32) as 161.", x.feed(32), FULL);
        c.due("2 feed(128) with a full tape", x.feed(128), BAD);
        c.due("2 count(5)", x.count(5), 160);
    }

    private static void ending() {
        TenPledges x = new TenPledges();
        c.due("3 end(1) of nothing", x.end(1), BAD);
        c.due("3 end(0) of nothing", x.end(0), 0);
        Check.feed(x, "fine 7;fine 8;");
        c.due("3 end(-1)", x.end(-1), BAD);
        c.due("3 end(15)", x.end(15), BAD);
        c.due("3 end(14)", x.end(14), 14);
        c.due("3 end(7)", x.end(7), 14);
        c.due("3 count(5)", x.count(5), 7);
        c.due("3 text()", x.text(), 1);
        c.due("3 rule(1)", x.rule(1), 7);
    }

    private static void takenTexts() {
        TenPledges x = c.told("calm 1 23 3;quarrel 4 5 2;saint 67 1;wander 8 99;fine 0;watch 9;"
                + "most 3 5;most 0 1;kin 3 0;kin 0 3;");
        c.due("4 count(5) behind text()", x.count(5), 0);
        int[][] due = {{0, 1, 23, 3, 8, 1}, {1, 4, 5, 2, 0, 4}, {2, 0, 67, 1, 0, 0},
            {3, 8, 99, NONE, 1, 8}};
        for (int m = 0; m < 4; m++) {
            for (int what = 0; what < 6; what++) {
                c.due("4 man(" + m + ", " + what + ")", x.man(m, what), due[m][what]);
            }
        }
        c.due("4 rule(1)", x.rule(1), 0);
        c.due("4 rule(2)", x.rule(2), 9);
        c.due("4 ten(3, 1)", x.ten(3, 1), 5);
        c.due("4 ten(0, 1)", x.ten(0, 1), 1);
        c.due("4 ten(1, 1)", x.ten(1, 1), 3);
        Check.feed(x, "wander 1 1;wander 1 1;wander 1 1;wander 1 1;wander 1 1;wander 1 1;"
                + "wander 1 1;wander 1 1;kin 0 7;");
        c.due("4 text() of 8 MEN", x.text(), 9);
        c.due("4 man(0, 4)", x.man(0, 4), 128);
        c.due("4 man(7, 4)", x.man(7, 4), 1);
        Check.feed(x, "most 0 5;calm 1 1 0;calm 1 1 0;calm 1 1 0;calm 1 1 0;calm 1 1 0;");
        c.due("4 text() of five in a TEN", x.text(), 6);
        Check.feed(x, "calm 1 1 0;calm 1 1 0;calm 1 1 0;calm 1 1 0;most 0 4;");
        c.due("4 text() with MOST told behind", x.text(), 5);
        Check.feed(x, "kin 1 0;calm 1 1 0;calm 1 1 0;");
        c.due("4 text() with KIN told ahead", x.text(), 3);
        c.due("4 man(0, 4) told ahead", x.man(0, 4), 2);
    }

    private static void tokens() {
        TenPledges x = c.told("  calm1 2   3 ;saint4 0;  fine07;watch 00  ;  ");
        c.due("4 rule(0)", x.rule(0), 2);
        c.due("4 man(0, 3)", x.man(0, 3), 3);
        c.due("4 man(1, 2)", x.man(1, 2), 4);
        c.due("4 rule(1)", x.rule(1), 7);
        c.due("4 rule(2)", x.rule(2), 0);
        Check.feed(x, "calm 12 0;");
        c.due("4 text(): one NUMBER of 1 and 2", x.text(), -15);
    }

    private static void refusedTexts() {
        // 1: no TOKEN, a NUMBER too long
        c.refused("Calm 1 1 0;", 1, 0);
        c.refused("calm 1 1 0;~", 1, 11);
        c.refused("calm 1 1 0;\t", 1, 11);
        c.refused("calm 1\n1 0;", 1, 6);
        c.refused("calm 1 -1 0;", 1, 7);
        c.refused("fine 012;", 1, 5);
        c.refused("  123", 1, 2);
        c.refused("calm 1 1 000", 1, 9);
        c.refused("calmX", 1, 4);
        c.refused("calm 1 1 0 \u0000;", 1, 11);
        c.refused("{", 1, 0);
        c.refused("`", 1, 0);
        c.refused("/", 1, 0);
        c.refused(":", 1, 0);
        // 2: a TOKEN that can not stand there
        c.refused("calms 1 1 0;", 2, 0);
        c.refused("cal 1 1 0;", 2, 0);
        c.refused(" ten 1;", 2, 1);
        c.refused("7", 2, 0);
        c.refused(";", 2, 0);
        c.refused("fine 1;;", 2, 7);
        c.refused("calm", 2, 4);
        c.refused("calm ", 2, 5);
        c.refused("calm 1 1 0", 2, 10);
        c.refused("calm 1 1 0  ", 2, 12);
        c.refused("calm 1 1 0 0;", 2, 11);
        c.refused("calm calm;", 2, 5);
        c.refused("calm ;", 2, 5);
        c.refused("saint 1 0 0;", 2, 10);
        c.refused("wander 1 1 0;", 2, 11);
        c.refused("fine 1 1;", 2, 7);
        c.refused("most 1;", 2, 6);
        c.refused("kin 1;", 2, 5);
        c.refused("calm 1 1 0 fine 1;", 2, 11);
        // 3: a NUMBER out of its bounds, before the TOKEN behind it is read
        c.refused("calm 10 A", 3, 5);
        c.refused("quarrel 10 1 0;", 3, 8);
        c.refused("quarrel 1 1 4;", 3, 12);
        c.refused("saint 1 4;", 3, 8);
        c.refused("wander 10 1;", 3, 7);
        c.refused("watch 10;", 3, 6);
        c.refused("most 4 1;", 3, 5);
        c.refused("most 1 0;", 3, 7);
        c.refused("most 1 6;", 3, 7);
        c.refused("kin 8 0;", 3, 4);
        c.refused("kin 0 8;", 3, 6);
        c.refused("kin 3 3;", 3, 6);
        // 4: told for the second time
        c.refused("fine 1; fine A", 4, 8);
        c.refused("watch 1;watch 1;", 4, 8);
        c.refused("most 1 1;most 0 1;most 1 A", 4, 23);
        // 5: the 9th MAN
        String eight = "wander 1 1;wander 1 1;wander 1 1;wander 1 1;"
                + "wander 1 1;wander 1 1;wander 1 1;wander 1 1;";
        c.refused(eight + "saint A", 5, 88);
        c.refused(eight + "calm 1 1 0;", 5, 88);
        c.refused(eight + "quarrel", 5, 88);
        c.refused(eight + " wander", 5, 89);
        // 6, 7: behind all
        c.refused("kin 0 1;calm 1 1 0; ", 6, 20);
        c.refused("kin 1 0;calm 1 1 0;", 6, 19);
        c.refused("calm 1 1 2;calm 1 1 2;calm 1 1 2;calm 1 1 2;", 7, 44);
        c.refused("saint 1 3;saint 1 3;most 3 1;", 7, 29);
        c.refused("saint 1 3;saint 1 3;most 3 1;kin 0 2;", 6, 37);
        c.refused("saint 1 3;saint 1 3;most 3 1;fine", 2, 33);
    }

    private static void tellsAll() {
        TenPledges x = c.told("calm 5 50 0;calm 5 50 0;fine 50;watch 7;most 1 5;kin 0 1;");
        x.watch(0, true);
        x.see(1, 3);
        x.year(0);
        x.keep(0);
        x.sheet(0, 1, 7);
        Check.feed(x, "fine 100");
        c.due("5 text()", x.text(), -15);
        c.due("5 fault()", x.fault(), 1);
        c.due("4 rule(4) stays", x.rule(4), 1);
        c.due("4 count(3) stays", x.count(3), 1);
        c.due("4 rule(3) stays", x.rule(3), 1);
        c.due("4 count(4) stays", x.count(4), 1);
        Check.feed(x, "calm 1 1 0;calm 1 1 1;");
        c.due("4 text()", x.text(), 2);
        c.due("5 fault() of a text that is taken", x.fault(), 0);
        c.due("4 rule(1) at first", x.rule(1), 12);
        c.due("4 rule(2) at first", x.rule(2), 2);
        c.due("4 rule(3) at first", x.rule(3), 0);
        c.due("4 nobody is watched", x.rule(4), 0);
        c.due("4 ten(1, 1) at first", x.ten(1, 1), 3);
        c.due("4 no KIN", x.man(0, 4), 0);
        c.due("4 nothing is SEEN", x.count(3), 0);
        c.due("4 IMAGES are gone", x.count(4), 0);
        c.due("4 back(0)", x.back(0), TenPledges.STATE);
        c.due("4 SHEETS stay", x.count(6), 7);
        c.due("4 text() of nothing", x.text(), 0);
        c.due("4 nobody", x.rule(0), 0);
    }

    private static void rules() {
        TenPledges x = c.told("wander 1 1;calm 1 1 0;wander 1 1;saint 1 0;");
        c.due("6 rule(-1)", x.rule(-1), BAD);
        c.due("6 rule(6)", x.rule(6), BAD);
        c.due("6 rule(0)", x.rule(0), 4);
        c.due("6 rule(5)", x.rule(5), 5);
        x.watch(1, true);
        x.watch(3, true);
        c.due("6 rule(4)", x.rule(4), 10);
        x.year(0);
        c.due("6 rule(3)", x.rule(3), 1);
    }

    private static void men() {
        TenPledges x = c.told("quarrel 9 1 0;quarrel 3 1 0;quarrel 0 1 0;quarrel 9 1 1;calm 7 1 1;"
                + "saint 1 1;wander 9 1;most 1 4;");
        c.due("7 man(-1, 0)", x.man(-1, 0), BAD);
        c.due("7 man(7, 0)", x.man(7, 0), BAD);
        c.due("7 man(0, -1)", x.man(0, -1), BAD);
        c.due("7 man(0, 6)", x.man(0, 6), BAD);
        int[] odds = {9, 5, 2, 9, 7, 0, 9};
        for (int m = 0; m < 7; m++) {
            c.due("7 man(" + m + ", 5)", x.man(m, 5), odds[m]);
            x.watch(m, true);
        }
        int[] watched = {5, 2, 1, 4, 3, 0, 9};
        for (int m = 0; m < 7; m++) {
            c.due("7 man(" + m + ", 5), all watched", x.man(m, 5), watched[m]);
        }
    }

    private static void tens() {
        TenPledges x = c.told("quarrel 2 10 1;calm 3 20 2;quarrel 4 30 1;wander 5 40;fine 7;watch 3;");
        c.due("8 ten(-1, 0)", x.ten(-1, 0), BAD);
        c.due("8 ten(4, 0)", x.ten(4, 0), BAD);
        c.due("8 ten(0, -1)", x.ten(0, -1), BAD);
        c.due("8 ten(0, 4)", x.ten(0, 4), BAD);
        c.due("8 ten(1, 0)", x.ten(1, 0), 5);
        c.due("8 ten(1, 1)", x.ten(1, 1), 3);
        c.due("8 ten(1, 2)", x.ten(1, 2), 56);
        c.due("8 ten(1, 3)", x.ten(1, 3), 40);
        x.watch(2, true);
        c.due("8 ten(1, 2), one watched", x.ten(1, 2), 65);
        c.due("8 ten(0, 2)", x.ten(0, 2), 0);
    }
}
