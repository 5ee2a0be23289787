/** Promises 9 to 16: what is changed. */
public final class ChangesTest {
    private static final int BAD = TenPledges.BAD, STATE = TenPledges.STATE,
            FULL = TenPledges.FULL, NONE = TenPledges.NONE;
    private static final String MEN =
            "calm 1 10 0;quarrel 2 20 0;saint 30 1;wander 4 40;quarrel 5 50 1;most 2 1;most 0 2;";
    private static final Check c = new Check();

    public static void main(String[] args) {
        moving();
        leaving();
        swapping();
        watching();
        kinship();
        odds();
        laws();
        goods();
        c.finish();
    }

    private static void moving() {
        TenPledges x = c.told(MEN);
        c.due("9 move(-1, 0)", x.move(-1, 0), BAD);
        c.due("9 move(5, 0)", x.move(5, 0), BAD);
        c.due("9 move(0, -1)", x.move(0, -1), BAD);
        c.due("9 move(0, 4)", x.move(0, 4), BAD);
        c.due("9 move(2, 0): it has MOST", x.move(2, 0), FULL);
        c.due("9 move(0, 0): his own, which has MOST", x.move(0, 0), 0);
        c.due("9 move(1, 0): his own, which has MOST", x.move(1, 0), 0);
        c.due("9 man(1, 0): quarrelsome still", x.man(1, 0), 1);
        c.due("9 ten(0, 0): as it was", x.ten(0, 0), 3);
        c.due("9 move(3, 0): a wanderer, it has MOST", x.move(3, 0), FULL);
        c.due("9 move(5, 0): no such MAN goes before MOST", x.move(5, 0), BAD);
        c.due("9 move(2, 1): its own", x.move(2, 1), 1);
        c.due("9 man(2, 3)", x.man(2, 3), 1);
        x.watch(0, true);
        c.due("9 move(0, 2)", x.move(0, 2), 0);
        c.due("9 man(0, 3)", x.man(0, 3), 2);
        c.due("9 rule(4): watched still", x.rule(4), 1);
        c.due("9 move(3, 2): one is MOST", x.move(3, 2), FULL);
        c.due("9 man(3, 0): refused, a wanderer still", x.man(3, 0), 3);
        c.due("9 move(3, 3)", x.move(3, 3), NONE);
        c.due("9 man(3, 0): calm then", x.man(3, 0), 0);
        c.due("9 man(3, 1)", x.man(3, 1), 4);
        c.due("9 rule(5)", x.rule(5), 0);
        c.due("9 move(1, 1)", x.move(1, 1), 0);
        c.due("9 man(1, 0): quarrelsome still", x.man(1, 0), 1);
        c.due("9 man(1, 5): with another one", x.man(1, 5), 3);
        c.due("9 ten(1, 0)", x.ten(1, 0), 22);
    }

    private static void leaving() {
        TenPledges x = c.told(MEN);
        c.due("10 leave(-1)", x.leave(-1), BAD);
        c.due("10 leave(5)", x.leave(5), BAD);
        c.due("10 leave(3)", x.leave(3), STATE);
        x.watch(4, true);
        x.kin(4, 2, true);
        c.due("10 leave(4)", x.leave(4), 1);
        c.due("10 man(4, 0)", x.man(4, 0), 3);
        c.due("10 man(4, 1)", x.man(4, 1), 5);
        c.due("10 man(4, 2)", x.man(4, 2), 50);
        c.due("10 man(4, 3)", x.man(4, 3), NONE);
        c.due("10 man(4, 4): KIN still", x.man(4, 4), 4);
        c.due("10 rule(4): watched no more", x.rule(4), 0);
        c.due("10 leave(4) again", x.leave(4), STATE);
        c.due("10 leave(2): a saint", x.leave(2), 1);
        c.due("10 man(2, 0)", x.man(2, 0), 3);
        c.due("10 odd(2, 6): a saint no more", x.odd(2, 6), 0);
        c.due("10 rule(5)", x.rule(5), 28);
    }

    private static void swapping() {
        TenPledges x = c.told(MEN);
        c.due("11 swap(-1, 0)", x.swap(-1, 0), BAD);
        c.due("11 swap(0, 5)", x.swap(0, 5), BAD);
        c.due("11 swap(0, 0)", x.swap(0, 0), BAD);
        c.due("11 swap(3, 3)", x.swap(3, 3), BAD);
        c.due("11 swap(0, 3)", x.swap(0, 3), STATE);
        c.due("11 swap(3, 0)", x.swap(3, 0), STATE);
        c.due("11 swap(0, 1)", x.swap(0, 1), STATE);
        x.watch(0, true);
        c.due("11 swap(0, 4): MOST is no hindrance", x.swap(0, 4), 1);
        c.due("11 man(4, 3)", x.man(4, 3), 0);
        c.due("11 man(4, 5)", x.man(4, 5), 6);
        c.due("11 rule(4)", x.rule(4), 1);
    }

    private static void watching() {
        TenPledges x = c.told(MEN);
        c.due("12 watch(-1, true)", x.watch(-1, true), BAD);
        c.due("12 watch(5, true)", x.watch(5, true), BAD);
        c.due("12 watch(3, true)", x.watch(3, true), STATE);
        c.due("12 watch(3, false)", x.watch(3, false), STATE);
        c.due("12 watch(2, true)", x.watch(2, true), 0);
        c.due("12 watch(2, true) again", x.watch(2, true), 1);
        c.due("12 watch(0, true)", x.watch(0, true), 0);
        c.due("12 rule(4)", x.rule(4), 5);
        c.due("12 watch(2, false)", x.watch(2, false), 1);
        c.due("12 watch(2, false) again", x.watch(2, false), 0);
        c.due("12 rule(4) then", x.rule(4), 1);
    }

    private static void kinship() {
        TenPledges x = c.told(MEN);
        c.due("13 kin(-1, 0, true)", x.kin(-1, 0, true), BAD);
        c.due("13 kin(0, 5, true)", x.kin(0, 5, true), BAD);
        c.due("13 kin(1, 1, true)", x.kin(1, 1, true), BAD);
        c.due("13 kin(1, 3, true)", x.kin(1, 3, true), 0);
        c.due("13 kin(3, 1, true)", x.kin(3, 1, true), 1);
        c.due("13 man(1, 4)", x.man(1, 4), 8);
        c.due("13 man(3, 4)", x.man(3, 4), 2);
        c.due("13 kin(3, 1, false)", x.kin(3, 1, false), 1);
        c.due("13 kin(1, 3, false)", x.kin(1, 3, false), 0);
        c.due("13 man(1, 4) then", x.man(1, 4), 0);
        c.due("13 man(3, 4) then", x.man(3, 4), 0);
    }

    private static void odds() {
        TenPledges x = c.told(MEN);
        c.due("14 odd(-1, 1)", x.odd(-1, 1), BAD);
        c.due("14 odd(5, 1)", x.odd(5, 1), BAD);
        c.due("14 odd(0, -1)", x.odd(0, -1), BAD);
        c.due("14 odd(0, 10)", x.odd(0, 10), BAD);
        c.due("14 odd(2, 10): BAD goes before STATE", x.odd(2, 10), BAD);
        c.due("14 odd(2, 0)", x.odd(2, 0), STATE);
        c.due("14 odd(0, 9)", x.odd(0, 9), 1);
        c.due("14 odd(3, 0)", x.odd(3, 0), 4);
        c.due("14 man(0, 1)", x.man(0, 1), 9);
        c.due("14 man(3, 1)", x.man(3, 1), 0);
    }

    private static void laws() {
        TenPledges x = c.told(MEN);
        c.due("15 law(-1, 0)", x.law(-1, 0), BAD);
        c.due("15 law(2, 0)", x.law(2, 0), BAD);
        c.due("15 law(0, -1)", x.law(0, -1), BAD);
        c.due("15 law(0, 100)", x.law(0, 100), BAD);
        c.due("15 law(1, -1)", x.law(1, -1), BAD);
        c.due("15 law(1, 10)", x.law(1, 10), BAD);
        c.due("15 law(0, 99)", x.law(0, 99), 12);
        c.due("15 law(1, 9)", x.law(1, 9), 2);
        c.due("15 law(0, 0)", x.law(0, 0), 99);
        c.due("15 law(1, 0)", x.law(1, 0), 9);
        c.due("15 rule(1)", x.rule(1), 0);
        c.due("15 rule(2)", x.rule(2), 0);
    }

    private static void goods() {
        TenPledges x = c.told(MEN);
        c.due("16 goods(-1, 1)", x.goods(-1, 1), BAD);
        c.due("16 goods(5, 1)", x.goods(5, 1), BAD);
        c.due("16 goods(0, -1)", x.goods(0, -1), BAD);
        c.due("16 goods(0, 100)", x.goods(0, 100), BAD);
        c.due("16 goods(0, 99)", x.goods(0, 99), 10);
        c.due("16 goods(3, 0)", x.goods(3, 0), 40);
        c.due("16 count(2)", x.count(2), 199);
    }
}
