/** Promises 22 to 28: who is put where, and what to do with a bad one. */
public final class PlacesTest {
    private static final int BAD = TenPledges.BAD, STATE = TenPledges.STATE, NONE = TenPledges.NONE;
    private static final Check c = new Check();

    public static void main(String[] args) {
        best();
        change();
        takes();
        weight();
        should();
        guard();
        worth();
        c.finish();
    }

    private static void best() {
        TenPledges x = c.told("quarrel 2 1 0;quarrel 2 1 0;calm 5 1 3;wander 4 1;quarrel 2 1 0;"
                + "fine 10;watch 1;");
        x.watch(2, true);
        c.due("22 best(-1)", x.best(-1), BAD);
        c.due("22 best(1)", x.best(1), BAD);
        c.due("22 best(9)", x.best(9), BAD);
        c.due("22 best(15)", x.best(15), BAD);
        c.due("22 best(least)", x.best(Integer.MIN_VALUE), BAD);
        c.due("22 best(most)", x.best(Integer.MAX_VALUE), BAD);
        c.due("22 best(0): three by themselves", x.best(0), 60 + 20 + 40 + 10);
        int[] first = {0, 1, 0, NONE, 2};
        for (int m = 0; m < 5; m++) {
            c.due("22 best(" + (10 + m) + ")", x.best(10 + m), first[m]);
        }
        c.due("22 ten(0, 0): nobody goes", x.ten(0, 0), 19);
        x.law(0, 0);
        int[] alike = {0, 0, 0, NONE, 1};
        for (int m = 0; m < 5; m++) {
            c.due("22 best(" + (10 + m) + ") with FINE 0", x.best(10 + m), alike[m]);
        }
        TenPledges y = c.told("calm 1 1 0;calm 1 1 1;calm 1 1 2;calm 1 1 3;quarrel 1 1 3;quarrel 1 1 1;"
                + "most 0 1;most 1 2;most 2 1;most 3 2;");
        int[] tight = {0, 1, 1, 3, 2, 3};
        for (int m = 0; m < 6; m++) {
            c.due("22 best(" + (10 + m) + ") with no room to spare", y.best(10 + m), tight[m]);
        }
    }

    private static void change() {
        TenPledges x = c.told("quarrel 1 1 0;quarrel 1 1 0;calm 1 1 1;calm 1 1 1;wander 1 1;fine 10;");
        c.due("23 change(-1)", x.change(-1), BAD);
        c.due("23 change(2)", x.change(2), BAD);
        c.due("23 change(0): of 02, 03, 12, 13 the least", x.change(0), 2);
        c.due("23 change(1)", x.change(1), 50);
        c.due("23 ten(0, 0): nobody goes", x.ten(0, 0), 3);
        x.odd(0, 9);
        // 9 is most: he is no worse by the other one, who is.
        c.due("23 change(0)", x.change(0), 2);
        c.due("23 change(1)", x.change(1), 130);
        x.law(0, 0);
        c.due("23 change(0): not less", x.change(0), NONE);
        c.due("23 change(1): not less", x.change(1), NONE);
        TenPledges y = c.told("calm 9 1 0;wander 9 1;");
        c.due("23 change(0): nobody to change with", y.change(0), NONE);
        TenPledges z = c.told("calm 1 1 0;quarrel 1 1 0;quarrel 1 1 0;saint 1 3;");
        c.due("23 change(0): 13", z.change(0), 13);
    }

    private static void takes() {
        TenPledges x = c.told("quarrel 4 1 0;quarrel 4 1 1;calm 3 1 2;wander 7 1;most 3 1;fine 10;watch 3;");
        c.due("24 takes(-1)", x.takes(-1), BAD);
        c.due("24 takes(4)", x.takes(4), BAD);
        c.due("24 takes(0): the empty one", x.takes(0), 3);
        c.due("24 takes(3): a wanderer", x.takes(3), 3);
        x.move(2, 3);
        c.due("24 takes(0): 3 has MOST", x.takes(0), 2);
        c.due("24 takes(3)", x.takes(3), 2);
        x.goods(2, 9);
        Check.feed(x, "quarrel 4 1 0;quarrel 4 1 1;calm 6 1 2;calm 0 1 3;most 3 1;most 2 1;fine 10;watch 3;");
        x.text();
        c.due("24 takes(0): 100 is not less than 100", x.takes(0), NONE);
        x.odd(0, 3);
        c.due("24 takes(0): 4 and 5 is less", x.takes(0), 1);
        x.watch(0, true);
        c.due("24 takes(0): 5 and 2, and 30", x.takes(0), NONE);
        x.law(1, 2);
        c.due("24 takes(0): 5 and 2, and 20", x.takes(0), 1);
        c.due("24 takes(3): its own is the least, but not asked", x.takes(3), 0);
        x.law(0, 0);
        c.due("24 takes(3): nothing is less than 0", x.takes(3), NONE);
        TenPledges y = c.told("wander 0 1;calm 0 1 0;");
        c.due("24 takes(0): of several the first", y.takes(0), 0);
        c.due("24 takes(1): not its own", y.takes(1), 1);
    }

    private static void weight() {
        TenPledges x = c.told("quarrel 4 1 0;quarrel 9 1 0;saint 1 0;wander 7 1;fine 10;watch 3;");
        c.due("25 weight(-1)", x.weight(-1), BAD);
        c.due("25 weight(4)", x.weight(4), BAD);
        c.due("25 weight(3)", x.weight(3), STATE);
        c.due("25 weight(0): the other one has 9 by himself", x.weight(0), 1050);
        c.due("25 weight(1)", x.weight(1), 1100);
        c.due("25 weight(2)", x.weight(2), 1000);
        x.watch(2, true);
        c.due("25 weight(2): watched", x.weight(2), 1030);
        c.due("25 ten(0, 0): nobody goes", x.ten(0, 0), 7);
        c.due("25 rule(4)", x.rule(4), 4);
    }

    private static void should() {
        TenPledges x = c.told("calm 5 1 0;quarrel 9 1 1;quarrel 4 1 1;saint 1 0;wander 7 1;fine 10;watch 3;");
        c.due("26 should(-1)", x.should(-1), BAD);
        c.due("26 should(5)", x.should(5), BAD);
        c.due("26 should(4)", x.should(4), STATE);
        c.due("26 should(0): 50; 20 and 30; 50", x.should(0), 0);
        c.due("26 should(1): 9 is 5, and 30; 9 and one less", x.should(1), 1);
        c.due("26 should(2): 5 is 2, and 30; 4", x.should(2), 2);
        c.due("26 should(3)", x.should(3), 0);
        x.watch(3, true);
        c.due("26 should(3): watched for nothing", x.should(3), 1);
        x.watch(0, true);
        c.due("26 should(0): 20 and 30; 50; 50", x.should(0), 0);
        x.law(1, 4);
        c.due("26 should(0): 20 and 40; 50; 50", x.should(0), 1);
        x.law(0, 0);
        x.law(1, 0);
        c.due("26 should(2): all alike", x.should(2), 0);
        c.due("26 rule(4): nothing changed", x.rule(4), 9);
    }

    private static void guard() {
        TenPledges x = c.told("calm 5 1 0;quarrel 7 1 1;quarrel 4 1 1;saint 1 0;wander 7 1;fine 10;watch 3;");
        x.watch(3, true);
        c.due("27 guard(-1)", x.guard(-1), BAD);
        c.due("27 guard(2)", x.guard(2), BAD);
        // 5 by 30 is even, so he is not of it; 8 by 40 is less; 5 is even.
        c.due("27 guard(0)", x.guard(0), 2);
        c.due("27 guard(1)", x.guard(1), 50 + 40 + 30 + 50 + 70);
        x.law(1, 2);
        c.due("27 guard(0)", x.guard(0), 7);
        x.law(1, 0);
        c.due("27 guard(0): a saint is not", x.guard(0), 7);
        x.law(0, 0);
        c.due("27 guard(0)", x.guard(0), 0);
        c.due("27 guard(1)", x.guard(1), 0);
        c.due("27 rule(4): nothing changed", x.rule(4), 8);
        TenPledges y = c.told("quarrel 9 1 0;quarrel 9 1 0;quarrel 9 1 0;fine 1;watch 0;");
        c.due("27 guard(0): 11 is 5, not 9", y.guard(0), 7);
        c.due("27 guard(1)", y.guard(1), 15);
    }

    private static void worth() {
        TenPledges x = c.told("calm 5 1 0;quarrel 9 1 1;quarrel 9 1 1;saint 1 0;wander 7 1;calm 1 1 2;"
                + "calm 0 1 2;fine 10;watch 3;");
        c.due("28 worth(-1)", x.worth(-1), BAD);
        c.due("28 worth(7)", x.worth(7), BAD);
        c.due("28 worth(4)", x.worth(4), STATE);
        c.due("28 worth(0): 30 is more than 20", x.worth(0), 2);
        c.due("28 worth(1): 9, or 10 by half", x.worth(1), 3);
        c.due("28 worth(3): a saint", x.worth(3), NONE);
        c.due("28 worth(5): 1 is 0", x.worth(5), 0);
        c.due("28 worth(6)", x.worth(6), NONE);
        x.watch(0, true);
        c.due("28 worth(0): watched or not, alike", x.worth(0), 2);
        x.law(0, 99);
        c.due("28 worth(1): 9 at most", x.worth(1), 9);
        x.law(0, 0);
        c.due("28 worth(1)", x.worth(1), NONE);
    }
}
